set_option maxHeartbeats 4000000 in
set_option maxRecDepth 100000 in
theorem c_X11_boxes (l : Launch) (D : va_G) (T : KT) (h : Nat → Nat) (v1 v3 : Int64) (m_taped m_states : Int32) (m_ra m_rb : Int64) (m_threes m_primes m_ones m_unit : Int32) (m_allParts m_allNorms m_allClasses : Int64) (m_odd : Int32) (m_boxWide m_boxHigh m_boxStep : Int64) (m_partingMany : Int32) (m_qa m_qb m_la m_lb m_sa m_sb m_ta m_tb : Int64) (m_listed m_tells m_wanted m_found : Int32) (m_bits : Int64) (m_power2 m_rings m_ringA m_ringB m_seedNow : Int32) (m_tape m_has m_keptHas m_first m_second m_keptFirst m_keptSecond m_pa m_pb m_pNorm m_cubed m_isOpen m_signs m_often m_la0 m_lb0 : Nat → Int32) (x : Int64 × Int64) (hf : f_X11_boxes v1 v3 m_boxWide m_boxHigh m_boxStep = some x) : kx_MV l yX11_boxes cX11_boxes 9 none 2 48 D T [.ref (h 0), .long v1, .long v3] (wM T h m_taped m_states m_ra m_rb m_threes m_primes m_ones m_unit m_allParts m_allNorms m_allClasses m_odd m_boxWide m_boxHigh m_boxStep m_partingMany m_qa m_qb m_la m_lb m_sa m_sb m_ta m_tb m_listed m_tells m_wanted m_found m_bits m_power2 m_rings m_ringA m_ringB m_seedNow m_tape m_has m_keptHas m_first m_second m_keptFirst m_keptSecond m_pa m_pb m_pNorm m_cubed m_isOpen m_signs m_often m_la0 m_lb0) (wM T h m_taped m_states x.1 x.2 m_threes m_primes m_ones m_unit m_allParts m_allNorms m_allClasses m_odd m_boxWide m_boxHigh m_boxStep m_partingMany m_qa m_qb m_la m_lb m_sa m_sb m_ta m_tb m_listed m_tells m_wanted m_found m_bits m_power2 m_rings m_ringA m_ringB m_seedNow m_tape m_has m_keptHas m_first m_second m_keptFirst m_keptSecond m_pa m_pb m_pNorm m_cubed m_isOpen m_signs m_often m_la0 m_lb0) := by
  refine kx_ofMV RX11 rfl (plainFor_of_name (x := yX11_boxes) kpn_X11) rfl ?_
  intro E A H ls _ C X R hl
  have hl : lv_has ls 9 [(0, .ref (h 0)), (1, .long v1), (3, .long v3)] := hl
  rw [f_X11_boxes] at hf
  refine x_lload_n 1 C dX11_boxes_0 hl 2 rfl rfl ?_
  refine x_aload_n 2 C dX11_boxes_1 hl 0 rfl rfl ?_
  refine x_get 5 C dX11_boxes_2 X kf_X11_250 0 rfl rfl rfl ?_
  obtain ⟨y5, hy5, hf⟩ := kx_bind hf
  refine x_callSl 8 C dX11_boxes_5 X hl kl_X11_136 (c_X11_rest E.2.1 D T  v3 m_boxHigh  y5 hy5) [] rfl rfl rfl rfl rfl cb_7 rfl (fun H locs X => ?_)
  refine x_lstore 10 C dX11_boxes_8 [(5, .long y5), (0, .ref (h 0)), (1, .long v1), (3, .long v3)] hl rfl rfl rfl (fun ls hl => ?_)
  refine x_lload_n 11 C dX11_boxes_10 hl 3 rfl rfl ?_
  refine x_aload_n 12 C dX11_boxes_11 hl 1 rfl rfl ?_
  refine x_get 15 C dX11_boxes_12 X kf_X11_250 0 rfl rfl rfl ?_
  obtain ⟨y15, hy15, hf⟩ := kx_bind hf
  refine x_callSl 18 C dX11_boxes_15 X hl kl_X11_63 (c_X11_down E.2.1 D T  v3 m_boxHigh  y15 hy15) [] rfl rfl rfl rfl rfl cb_7 rfl (fun H locs X => ?_)
  refine x_aload_n 19 C dX11_boxes_18 hl 1 rfl rfl ?_
  refine x_get 22 C dX11_boxes_19 X kf_X11_253 0 rfl rfl rfl ?_
  obtain ⟨y22, hy22, hf⟩ := kx_bind hf
  refine x_callSl 25 C dX11_boxes_22 X hl kl_X11_136 (c_X11_rest E.2.1 D T  y15 m_boxWide  y22 hy22) [] rfl rfl rfl rfl rfl cb_7 rfl (fun H locs X => ?_)
  refine x_lstore 27 C dX11_boxes_25 [(7, .long y22), (5, .long y5), (0, .ref (h 0)), (1, .long v1), (3, .long v3)] hl rfl rfl rfl (fun ls hl => ?_)
  refine x_aload_n 28 C dX11_boxes_27 hl 2 rfl rfl ?_
  refine x_lload_n 29 C dX11_boxes_28 hl 3 rfl rfl ?_
  refine x_lload 31 C dX11_boxes_29 hl 0 rfl rfl ?_
  refine x_aload_n 32 C dX11_boxes_31 hl 2 rfl rfl ?_
  refine x_get 35 C dX11_boxes_32 X kf_X11_256 0 rfl rfl rfl ?_
  refine x_lmul 36 C dX11_boxes_35 rfl ?_
  refine x_lsub 37 C dX11_boxes_36 rfl ?_
  refine x_aload_n 38 C dX11_boxes_37 hl 2 rfl rfl ?_
  refine x_get 41 C dX11_boxes_38 X kf_X11_253 0 rfl rfl rfl ?_
  obtain ⟨y41, hy41, hf⟩ := kx_bind hf
  refine x_callSl 44 C dX11_boxes_41 X hl kl_X11_136 (c_X11_rest E.2.1 D T  (v1 - (y22 * m_boxStep)) m_boxWide  y41 hy41) [.ref (h 0)] rfl rfl rfl rfl rfl cb_7 rfl (fun H locs X => ?_)
  refine x_lload 46 C dX11_boxes_44 hl 1 rfl rfl ?_
  obtain ⟨y46, hy46, hf⟩ := kx_bind hf
  refine x_callVv0 49 C dX11_boxes_46 X hl kl_X11_115 (c_X11_sets E.2.1 D T h y41 y5 m_taped m_states m_ra m_rb m_threes m_primes m_ones m_unit m_allParts m_allNorms m_allClasses m_odd m_boxWide m_boxHigh m_boxStep m_partingMany m_qa m_qb m_la m_lb m_sa m_sb m_ta m_tb m_listed m_tells m_wanted m_found m_bits m_power2 m_rings m_ringA m_ringB m_seedNow m_tape m_has m_keptHas m_first m_second m_keptFirst m_keptSecond m_pa m_pb m_pNorm m_cubed m_isOpen m_signs m_often m_la0 m_lb0 y46 hy46) rfl rfl [] rfl rfl rfl rfl rfl rfl (fun H locs X => ?_)
  obtain rfl := Option.some.inj hf
  exact R _ _ _ _ X dX11_boxes_49
set_option maxHeartbeats 4000000 in
set_option maxRecDepth 100000 in
theorem c_X11_without (l : Launch) (D : va_G) (T : KT)  (v0 : Int64)  (x : Int64) (hf : f_X11_without v0 = some x) : kx_ML l yX11_without cX11_without 2 (some .long) 0 0 D T [.long v0] (w4_ T  ) (w4_ T  ) x := by
  refine kx_ofML RX11 rfl (plainFor_of_name (x := yX11_without) kpn_X11) rfl ?_
  intro E A H ls _ C X R hl
  have hl : lv_has ls 2 [(0, .long v0)] := hl
  rw [f_X11_without] at hf
  refine x_lload_n 1 C dX11_without_0 hl 0 rfl rfl ?_
  refine x_lconst 2 C dX11_without_1 (0 : Int64) kv_lconst_0 rfl ?_
  refine x_lcmp_ge 11 3 6 C dX11_without_2 dX11_without_3 rfl rfl rfl hf (fun hf => ?_) (fun hf => ?_)
  · refine x_lload_n 12 C dX11_without_11 hl 0 rfl rfl ?_
    obtain rfl := Option.some.inj hf
    exact R _ _ _ _ X dX11_without_12
  refine x_lload_n 7 C dX11_without_6 hl 0 rfl rfl ?_
  refine x_lneg 8 C dX11_without_7 rfl ?_
  refine x_goto 12 C dX11_without_8 rfl ?_
  obtain rfl := Option.some.inj hf
  exact R _ _ _ _ X dX11_without_12
set_option maxHeartbeats 4000000 in
set_option maxRecDepth 100000 in
theorem w_X11_laysBox_146 {E : KE} {A : Nat → Prop} {D : va_G} {T : KT} (h : Nat → Nat) (C : kx_C E cX11_laysBox 21 none RX11 2 48 D T) (N : Nat) (x : Int64 × Int64 × Int64) (m_taped m_states : Int32) (m_ra m_rb : Int64) (m_threes m_primes m_ones m_unit : Int32) (m_allParts m_allNorms m_allClasses : Int64) (m_odd m_partingMany : Int32) (m_qa m_qb m_la m_lb m_sa m_sb m_ta m_tb : Int64) (m_listed m_tells m_wanted m_found : Int32) (m_bits : Int64) (m_power2 m_rings m_ringA m_ringB m_seedNow : Int32) (m_tape m_has m_keptHas m_first m_second m_keptFirst m_keptSecond m_pa m_pb m_pNorm m_cubed m_isOpen m_signs m_often m_la0 m_lb0 : Nat → Int32) (R : kx_RV E cX11_laysBox D A (wM T h m_taped m_states m_ra m_rb m_threes m_primes m_ones m_unit m_allParts m_allNorms m_allClasses m_odd x.1 x.2.1 x.2.2 m_partingMany m_qa m_qb m_la m_lb m_sa m_sb m_ta m_tb m_listed m_tells m_wanted m_found m_bits m_power2 m_rings m_ringA m_ringB m_seedNow m_tape m_has m_keptHas m_first m_second m_keptFirst m_keptSecond m_pa m_pb m_pNorm m_cubed m_isOpen m_signs m_often m_la0 m_lb0)) : ∀ (m_boxWide m_boxHigh m_boxStep : Int64) (v1 v3 v9 s0 : Int64) (H : Heap) (locs : List Loc) (ls : Array Slot), kx_H E D A H locs (wM T h m_taped m_states m_ra m_rb m_threes m_primes m_ones m_unit m_allParts m_allNorms m_allClasses m_odd m_boxWide m_boxHigh m_boxStep m_partingMany m_qa m_qb m_la m_lb m_sa m_sb m_ta m_tb m_listed m_tells m_wanted m_found m_bits m_power2 m_rings m_ringA m_ringB m_seedNow m_tape m_has m_keptHas m_first m_second m_keptFirst m_keptSecond m_pa m_pb m_pNorm m_cubed m_isOpen m_signs m_often m_la0 m_lb0) → lv_has ls 21 [(0, .ref (h 0)), (1, .long v1), (3, .long v3), (9, .long v9)] → f_X11_laysBox_146 N v1 v3 v9 s0 m_boxWide m_boxHigh = some x → kx_W E H locs 146 ls [.long s0] := by
  intro m_boxWide m_boxHigh m_boxStep v1 v3 v9 s0 H locs ls X hl hf
  rw [f_X11_laysBox_146] at hf
  refine x_lstore 148 C dX11_laysBox_146 [(11, .long s0), (0, .ref (h 0)), (1, .long v1), (3, .long v3), (9, .long v9)] hl rfl rfl rfl (fun ls hl => ?_)
  refine x_aload_n 149 C dX11_laysBox_148 hl 1 rfl rfl ?_
  refine x_lload_n 150 C dX11_laysBox_149 hl 2 rfl rfl ?_
  refine x_lload 152 C dX11_laysBox_150 hl 4 rfl rfl ?_
  refine x_lmul 153 C dX11_laysBox_152 rfl ?_
  refine x_lload_n 154 C dX11_laysBox_153 hl 3 rfl rfl ?_
  refine x_lload 156 C dX11_laysBox_154 hl 0 rfl rfl ?_
  refine x_lmul 157 C dX11_laysBox_156 rfl ?_
  refine x_lsub 158 C dX11_laysBox_157 rfl ?_
  refine x_aload_n 159 C dX11_laysBox_158 hl 1 rfl rfl ?_
  refine x_get 162 C dX11_laysBox_159 X kf_X11_253 0 rfl rfl rfl ?_
  obtain ⟨y162, hy162, hf⟩ := kx_bind hf
  refine x_callSl 165 C dX11_laysBox_162 X hl kl_X11_136 (c_X11_rest E.2.1 D T  ((v1 * v9) - (v3 * s0)) m_boxWide  y162 hy162) [.ref (h 0)] rfl rfl rfl rfl rfl cb_7 rfl (fun H locs X => ?_)
  refine x_put 168 C dX11_laysBox_165 X kp_X11_256 0 rfl rfl rfl rfl (wM T h m_taped m_states m_ra m_rb m_threes m_primes m_ones m_unit m_allParts m_allNorms m_allClasses m_odd m_boxWide m_boxHigh y162 m_partingMany m_qa m_qb m_la m_lb m_sa m_sb m_ta m_tb m_listed m_tells m_wanted m_found m_bits m_power2 m_rings m_ringA m_ringB m_seedNow m_tape m_has m_keptHas m_first m_second m_keptFirst m_keptSecond m_pa m_pb m_pNorm m_cubed m_isOpen m_signs m_often m_la0 m_lb0) rfl rfl (fun H locs X => ?_)
  obtain rfl := Option.some.inj hf
  exact R _ _ _ _ X dX11_laysBox_168
set_option maxHeartbeats 4000000 in
set_option maxRecDepth 100000 in
theorem w_X11_laysBox_20 {E : KE} {A : Nat → Prop} {D : va_G} {T : KT} (h : Nat → Nat) (C : kx_C E cX11_laysBox 21 none RX11 2 48 D T) (N : Nat) (x : Int64 × Int64 × Int64) (m_taped m_states : Int32) (m_ra m_rb : Int64) (m_threes m_primes m_ones m_unit : Int32) (m_allParts m_allNorms m_allClasses : Int64) (m_odd m_partingMany : Int32) (m_qa m_qb m_la m_lb m_sa m_sb m_ta m_tb : Int64) (m_listed m_tells m_wanted m_found : Int32) (m_bits : Int64) (m_power2 m_rings m_ringA m_ringB m_seedNow : Int32) (m_tape m_has m_keptHas m_first m_second m_keptFirst m_keptSecond m_pa m_pb m_pNorm m_cubed m_isOpen m_signs m_often m_la0 m_lb0 : Nat → Int32) (R : kx_RV E cX11_laysBox D A (wM T h m_taped m_states m_ra m_rb m_threes m_primes m_ones m_unit m_allParts m_allNorms m_allClasses m_odd x.1 x.2.1 x.2.2 m_partingMany m_qa m_qb m_la m_lb m_sa m_sb m_ta m_tb m_listed m_tells m_wanted m_found m_bits m_power2 m_rings m_ringA m_ringB m_seedNow m_tape m_has m_keptHas m_first m_second m_keptFirst m_keptSecond m_pa m_pb m_pNorm m_cubed m_isOpen m_signs m_often m_la0 m_lb0)) : ∀ (k : Nat), ∀ (m_boxWide m_boxHigh m_boxStep : Int64) (v1 v3 v5 v7 v9 v11 v13 v15 : Int64) (H : Heap) (locs : List Loc) (ls : Array Slot), kx_H E D A H locs (wM T h m_taped m_states m_ra m_rb m_threes m_primes m_ones m_unit m_allParts m_allNorms m_allClasses m_odd m_boxWide m_boxHigh m_boxStep m_partingMany m_qa m_qb m_la m_lb m_sa m_sb m_ta m_tb m_listed m_tells m_wanted m_found m_bits m_power2 m_rings m_ringA m_ringB m_seedNow m_tape m_has m_keptHas m_first m_second m_keptFirst m_keptSecond m_pa m_pb m_pNorm m_cubed m_isOpen m_signs m_often m_la0 m_lb0) → lv_has ls 21 [(0, .ref (h 0)), (1, .long v1), (3, .long v3), (5, .long v5), (7, .long v7), (9, .long v9), (11, .long v11), (13, .long v13), (15, .long v15)] → f_X11_laysBox_20 N k v1 v3 v5 v7 v9 v11 v13 v15 = some x → kx_W E H locs 20 ls [] := by
  intro k
  induction k with
  | zero =>
    intro m_boxWide m_boxHigh m_boxStep v1 v3 v5 v7 v9 v11 v13 v15 H locs ls X hl hf
    cases (show (none : Option (Int64 × Int64 × Int64)) = some x from hf)
  | succ k ih =>
    intro m_boxWide m_boxHigh m_boxStep v1 v3 v5 v7 v9 v11 v13 v15 H locs ls X hl hf
    rw [f_X11_laysBox_20] at hf
    refine x_lload 22 C dX11_laysBox_20 hl 4 rfl rfl ?_
    refine x_lconst 23 C dX11_laysBox_22 (0 : Int64) kv_lconst_0 rfl ?_
    refine x_lcmp_eq 91 24 27 C dX11_laysBox_23 dX11_laysBox_24 rfl rfl rfl hf (fun hf => ?_) (fun hf => ?_)
    · refine x_aload_n 92 C dX11_laysBox_91 hl 0 rfl rfl ?_
      refine x_lload 94 C dX11_laysBox_92 hl 3 rfl rfl ?_
      obtain ⟨y94, hy94, hf⟩ := kx_bind hf
      refine x_callSl 97 C dX11_laysBox_94 X hl kl_X11_246 (c_X11_without E.2.1 D T  v5  y94 hy94) [.ref (h 0)] rfl rfl rfl rfl rfl cb_7 rfl (fun H locs X => ?_)
      refine x_put 100 C dX11_laysBox_97 X kp_X11_250 0 rfl rfl rfl rfl (wM T h m_taped m_states m_ra m_rb m_threes m_primes m_ones m_unit m_allParts m_allNorms m_allClasses m_odd m_boxWide y94 m_boxStep m_partingMany m_qa m_qb m_la m_lb m_sa m_sb m_ta m_tb m_listed m_tells m_wanted m_found m_bits m_power2 m_rings m_ringA m_ringB m_seedNow m_tape m_has m_keptHas m_first m_second m_keptFirst m_keptSecond m_pa m_pb m_pNorm m_cubed m_isOpen m_signs m_often m_la0 m_lb0) rfl rfl (fun H locs X => ?_)
      refine x_aload_n 101 C dX11_laysBox_100 hl 0 rfl rfl ?_
      refine x_lload_n 102 C dX11_laysBox_101 hl 1 rfl rfl ?_
      refine x_lload_n 103 C dX11_laysBox_102 hl 2 rfl rfl ?_
      obtain ⟨y103, hy103, hf⟩ := kx_bind hf
      refine x_callSl 106 C dX11_laysBox_103 X hl kl_X11_112 (c_X11_norm E.2.1 D T  v1 v3  y103 hy103) [.ref (h 0)] rfl rfl rfl rfl rfl cb_7 rfl (fun H locs X => ?_)
      refine x_aload_n 107 C dX11_laysBox_106 hl 0 rfl rfl ?_
      refine x_get 110 C dX11_laysBox_107 X kf_X11_250 0 rfl rfl rfl ?_
      refine x_ldiv 111 C dX11_laysBox_110 hf rfl (fun hf => ?_)
      refine x_put 114 C dX11_laysBox_111 X kp_X11_253 0 rfl rfl rfl rfl (wM T h m_taped m_states m_ra m_rb m_threes m_primes m_ones m_unit m_allParts m_allNorms m_allClasses m_odd (y103 / y94) y94 m_boxStep m_partingMany m_qa m_qb m_la m_lb m_sa m_sb m_ta m_tb m_listed m_tells m_wanted m_found m_bits m_power2 m_rings m_ringA m_ringB m_seedNow m_tape m_has m_keptHas m_first m_second m_keptFirst m_keptSecond m_pa m_pb m_pNorm m_cubed m_isOpen m_signs m_often m_la0 m_lb0) rfl rfl (fun H locs X => ?_)
      refine x_lload 116 C dX11_laysBox_114 hl 3 rfl rfl ?_
      refine x_lconst 117 C dX11_laysBox_116 (0 : Int64) kv_lconst_0 rfl ?_
      refine x_lcmp_ge 127 118 121 C dX11_laysBox_117 dX11_laysBox_118 rfl rfl rfl hf (fun hf => ?_) (fun hf => ?_)
      · refine x_lload 129 C dX11_laysBox_127 hl 5 rfl rfl ?_
        refine x_lstore 131 C dX11_laysBox_129 [(9, .long v9), (0, .ref (h 0)), (1, .long v1), (3, .long v3), (5, .long v5), (7, .long v7), (11, .long v11), (13, .long v13), (15, .long v15)] hl rfl rfl rfl (fun ls hl => ?_)
        refine x_lload 133 C dX11_laysBox_131 hl 4 rfl rfl ?_
        refine x_lconst 134 C dX11_laysBox_133 (0 : Int64) kv_lconst_0 rfl ?_
        refine x_lcmp_ge 144 135 138 C dX11_laysBox_134 dX11_laysBox_135 rfl rfl rfl hf (fun hf => ?_) (fun hf => ?_)
        · refine x_lload 146 C dX11_laysBox_144 hl 6 rfl rfl ?_
          exact w_X11_laysBox_146 h C N x m_taped m_states m_ra m_rb m_threes m_primes m_ones m_unit m_allParts m_allNorms m_allClasses m_odd m_partingMany m_qa m_qb m_la m_lb m_sa m_sb m_ta m_tb m_listed m_tells m_wanted m_found m_bits m_power2 m_rings m_ringA m_ringB m_seedNow m_tape m_has m_keptHas m_first m_second m_keptFirst m_keptSecond m_pa m_pb m_pNorm m_cubed m_isOpen m_signs m_often m_la0 m_lb0 R  (y103 / y94) y94 m_boxStep v1 v3 v9 v11 _ _ _ X (lv_sub hl [1, 2, 3, 0] rfl) hf
        refine x_lload 140 C dX11_laysBox_138 hl 6 rfl rfl ?_
        refine x_lneg 141 C dX11_laysBox_140 rfl ?_
        refine x_goto 146 C dX11_laysBox_141 rfl ?_
        exact w_X11_laysBox_146 h C N x m_taped m_states m_ra m_rb m_threes m_primes m_ones m_unit m_allParts m_allNorms m_allClasses m_odd m_partingMany m_qa m_qb m_la m_lb m_sa m_sb m_ta m_tb m_listed m_tells m_wanted m_found m_bits m_power2 m_rings m_ringA m_ringB m_seedNow m_tape m_has m_keptHas m_first m_second m_keptFirst m_keptSecond m_pa m_pb m_pNorm m_cubed m_isOpen m_signs m_often m_la0 m_lb0 R  (y103 / y94) y94 m_boxStep v1 v3 v9 (-v11) _ _ _ X (lv_sub hl [1, 2, 3, 0] rfl) hf
      refine x_lload 123 C dX11_laysBox_121 hl 5 rfl rfl ?_
      refine x_lneg 124 C dX11_laysBox_123 rfl ?_
      refine x_goto 129 C dX11_laysBox_124 rfl ?_
      refine x_lstore 131 C dX11_laysBox_129 [(9, .long (-v9)), (0, .ref (h 0)), (1, .long v1), (3, .long v3), (5, .long v5), (7, .long v7), (11, .long v11), (13, .long v13), (15, .long v15)] hl rfl rfl rfl (fun ls hl => ?_)
      refine x_lload 133 C dX11_laysBox_131 hl 4 rfl rfl ?_
      refine x_lconst 134 C dX11_laysBox_133 (0 : Int64) kv_lconst_0 rfl ?_
      refine x_lcmp_ge 144 135 138 C dX11_laysBox_134 dX11_laysBox_135 rfl rfl rfl hf (fun hf => ?_) (fun hf => ?_)
      · refine x_lload 146 C dX11_laysBox_144 hl 6 rfl rfl ?_
        exact w_X11_laysBox_146 h C N x m_taped m_states m_ra m_rb m_threes m_primes m_ones m_unit m_allParts m_allNorms m_allClasses m_odd m_partingMany m_qa m_qb m_la m_lb m_sa m_sb m_ta m_tb m_listed m_tells m_wanted m_found m_bits m_power2 m_rings m_ringA m_ringB m_seedNow m_tape m_has m_keptHas m_first m_second m_keptFirst m_keptSecond m_pa m_pb m_pNorm m_cubed m_isOpen m_signs m_often m_la0 m_lb0 R  (y103 / y94) y94 m_boxStep v1 v3 (-v9) v11 _ _ _ X (lv_sub hl [1, 2, 3, 0] rfl) hf
      refine x_lload 140 C dX11_laysBox_138 hl 6 rfl rfl ?_
      refine x_lneg 141 C dX11_laysBox_140 rfl ?_
      refine x_goto 146 C dX11_laysBox_141 rfl ?_
      exact w_X11_laysBox_146 h C N x m_taped m_states m_ra m_rb m_threes m_primes m_ones m_unit m_allParts m_allNorms m_allClasses m_odd m_partingMany m_qa m_qb m_la m_lb m_sa m_sb m_ta m_tb m_listed m_tells m_wanted m_found m_bits m_power2 m_rings m_ringA m_ringB m_seedNow m_tape m_has m_keptHas m_first m_second m_keptFirst m_keptSecond m_pa m_pb m_pNorm m_cubed m_isOpen m_signs m_often m_la0 m_lb0 R  (y103 / y94) y94 m_boxStep v1 v3 (-v9) (-v11) _ _ _ X (lv_sub hl [1, 2, 3, 0] rfl) hf
    refine x_lload 29 C dX11_laysBox_27 hl 3 rfl rfl ?_
    refine x_lload 31 C dX11_laysBox_29 hl 4 rfl rfl ?_
    refine x_ldiv 32 C dX11_laysBox_31 hf rfl (fun hf => ?_)
    refine x_lstore 34 C dX11_laysBox_32 [(17, .long (v5 / v7)), (0, .ref (h 0)), (1, .long v1), (3, .long v3), (5, .long v5), (7, .long v7), (9, .long v9), (11, .long v11), (13, .long v13), (15, .long v15)] hl rfl rfl rfl (fun ls hl => ?_)
    refine x_lload 36 C dX11_laysBox_34 hl 4 rfl rfl ?_
    refine x_lload 38 C dX11_laysBox_36 hl 0 rfl rfl ?_
    refine x_lload 40 C dX11_laysBox_38 hl 5 rfl rfl ?_
    refine x_lmul 41 C dX11_laysBox_40 rfl ?_
    refine x_lsub 42 C dX11_laysBox_41 rfl ?_
    refine x_lstore 44 C dX11_laysBox_42 [(19, .long (v5 - ((v5 / v7) * v7))), (17, .long (v5 / v7)), (0, .ref (h 0)), (1, .long v1), (3, .long v3), (5, .long v5), (7, .long v7), (9, .long v9), (11, .long v11), (13, .long v13), (15, .long v15)] hl rfl rfl rfl (fun ls hl => ?_)
    refine x_lload 46 C dX11_laysBox_44 hl 6 rfl rfl ?_
    refine x_lstore 48 C dX11_laysBox_46 [(5, .long v7), (19, .long (v5 - ((v5 / v7) * v7))), (17, .long (v5 / v7)), (0, .ref (h 0)), (1, .long v1), (3, .long v3), (7, .long v7), (9, .long v9), (11, .long v11), (13, .long v13), (15, .long v15)] hl rfl rfl rfl (fun ls hl => ?_)
    refine x_lload 50 C dX11_laysBox_48 hl 1 rfl rfl ?_
    refine x_lstore 52 C dX11_laysBox_50 [(7, .long (v5 - ((v5 / v7) * v7))), (5, .long v7), (19, .long (v5 - ((v5 / v7) * v7))), (17, .long (v5 / v7)), (0, .ref (h 0)), (1, .long v1), (3, .long v3), (9, .long v9), (11, .long v11), (13, .long v13), (15, .long v15)] hl rfl rfl rfl (fun ls hl => ?_)
    refine x_lload 54 C dX11_laysBox_52 hl 7 rfl rfl ?_
    refine x_lload 56 C dX11_laysBox_54 hl 3 rfl rfl ?_
    refine x_lload 58 C dX11_laysBox_56 hl 9 rfl rfl ?_
    refine x_lmul 59 C dX11_laysBox_58 rfl ?_
    refine x_lsub 60 C dX11_laysBox_59 rfl ?_
    refine x_lstore 62 C dX11_laysBox_60 [(19, .long (v9 - ((v5 / v7) * v13))), (7, .long (v5 - ((v5 / v7) * v7))), (5, .long v7), (17, .long (v5 / v7)), (0, .ref (h 0)), (1, .long v1), (3, .long v3), (9, .long v9), (11, .long v11), (13, .long v13), (15, .long v15)] hl rfl rfl rfl (fun ls hl => ?_)
    refine x_lload 64 C dX11_laysBox_62 hl 9 rfl rfl ?_
    refine x_lstore 66 C dX11_laysBox_64 [(9, .long v13), (19, .long (v9 - ((v5 / v7) * v13))), (7, .long (v5 - ((v5 / v7) * v7))), (5, .long v7), (17, .long (v5 / v7)), (0, .ref (h 0)), (1, .long v1), (3, .long v3), (11, .long v11), (13, .long v13), (15, .long v15)] hl rfl rfl rfl (fun ls hl => ?_)
    refine x_lload 68 C dX11_laysBox_66 hl 1 rfl rfl ?_
    refine x_lstore 70 C dX11_laysBox_68 [(13, .long (v9 - ((v5 / v7) * v13))), (9, .long v13), (19, .long (v9 - ((v5 / v7) * v13))), (7, .long (v5 - ((v5 / v7) * v7))), (5, .long v7), (17, .long (v5 / v7)), (0, .ref (h 0)), (1, .long v1), (3, .long v3), (11, .long v11), (15, .long v15)] hl rfl rfl rfl (fun ls hl => ?_)
    refine x_lload 72 C dX11_laysBox_70 hl 9 rfl rfl ?_
    refine x_lload 74 C dX11_laysBox_72 hl 5 rfl rfl ?_
    refine x_lload 76 C dX11_laysBox_74 hl 10 rfl rfl ?_
    refine x_lmul 77 C dX11_laysBox_76 rfl ?_
    refine x_lsub 78 C dX11_laysBox_77 rfl ?_
    refine x_lstore 80 C dX11_laysBox_78 [(19, .long (v11 - ((v5 / v7) * v15))), (13, .long (v9 - ((v5 / v7) * v13))), (9, .long v13), (7, .long (v5 - ((v5 / v7) * v7))), (5, .long v7), (17, .long (v5 / v7)), (0, .ref (h 0)), (1, .long v1), (3, .long v3), (11, .long v11), (15, .long v15)] hl rfl rfl rfl (fun ls hl => ?_)
    refine x_lload 82 C dX11_laysBox_80 hl 10 rfl rfl ?_
    refine x_lstore 84 C dX11_laysBox_82 [(11, .long v15), (19, .long (v11 - ((v5 / v7) * v15))), (13, .long (v9 - ((v5 / v7) * v13))), (9, .long v13), (7, .long (v5 - ((v5 / v7) * v7))), (5, .long v7), (17, .long (v5 / v7)), (0, .ref (h 0)), (1, .long v1), (3, .long v3), (15, .long v15)] hl rfl rfl rfl (fun ls hl => ?_)
    refine x_lload 86 C dX11_laysBox_84 hl 1 rfl rfl ?_
    refine x_lstore 88 C dX11_laysBox_86 [(15, .long (v11 - ((v5 / v7) * v15))), (11, .long v15), (19, .long (v11 - ((v5 / v7) * v15))), (13, .long (v9 - ((v5 / v7) * v13))), (9, .long v13), (7, .long (v5 - ((v5 / v7) * v7))), (5, .long v7), (17, .long (v5 / v7)), (0, .ref (h 0)), (1, .long v1), (3, .long v3)] hl rfl rfl rfl (fun ls hl => ?_)
    refine x_goto 20 C dX11_laysBox_88 rfl ?_
    exact ih m_boxWide m_boxHigh m_boxStep v1 v3 v7 (v5 - ((v5 / v7) * v7)) v13 v15 (v9 - ((v5 / v7) * v13)) (v11 - ((v5 / v7) * v15)) _ _ _ X (lv_sub hl [8, 9, 10, 6, 5, 4, 1, 3, 0] rfl) hf
set_option maxHeartbeats 4000000 in
set_option maxRecDepth 100000 in
theorem c_X11_laysBox (l : Launch) (D : va_G) (T : KT) (h : Nat → Nat) (N : Nat) (v1 v3 : Int64) (m_taped m_states : Int32) (m_ra m_rb : Int64) (m_threes m_primes m_ones m_unit : Int32) (m_allParts m_allNorms m_allClasses : Int64) (m_odd : Int32) (m_boxWide m_boxHigh m_boxStep : Int64) (m_partingMany : Int32) (m_qa m_qb m_la m_lb m_sa m_sb m_ta m_tb : Int64) (m_listed m_tells m_wanted m_found : Int32) (m_bits : Int64) (m_power2 m_rings m_ringA m_ringB m_seedNow : Int32) (m_tape m_has m_keptHas m_first m_second m_keptFirst m_keptSecond m_pa m_pb m_pNorm m_cubed m_isOpen m_signs m_often m_la0 m_lb0 : Nat → Int32) (x : Int64 × Int64 × Int64) (hf : f_X11_laysBox N v1 v3 = some x) : kx_MV l yX11_laysBox cX11_laysBox 21 none 2 48 D T [.ref (h 0), .long v1, .long v3] (wM T h m_taped m_states m_ra m_rb m_threes m_primes m_ones m_unit m_allParts m_allNorms m_allClasses m_odd m_boxWide m_boxHigh m_boxStep m_partingMany m_qa m_qb m_la m_lb m_sa m_sb m_ta m_tb m_listed m_tells m_wanted m_found m_bits m_power2 m_rings m_ringA m_ringB m_seedNow m_tape m_has m_keptHas m_first m_second m_keptFirst m_keptSecond m_pa m_pb m_pNorm m_cubed m_isOpen m_signs m_often m_la0 m_lb0) (wM T h m_taped m_states m_ra m_rb m_threes m_primes m_ones m_unit m_allParts m_allNorms m_allClasses m_odd x.1 x.2.1 x.2.2 m_partingMany m_qa m_qb m_la m_lb m_sa m_sb m_ta m_tb m_listed m_tells m_wanted m_found m_bits m_power2 m_rings m_ringA m_ringB m_seedNow m_tape m_has m_keptHas m_first m_second m_keptFirst m_keptSecond m_pa m_pb m_pNorm m_cubed m_isOpen m_signs m_often m_la0 m_lb0) := by
  refine kx_ofMV RX11 rfl (plainFor_of_name (x := yX11_laysBox) kpn_X11) rfl ?_
  intro E A H ls _ C X R hl
  have hl : lv_has ls 21 [(0, .ref (h 0)), (1, .long v1), (3, .long v3)] := hl
  rw [f_X11_laysBox] at hf
  refine x_lload_n 1 C dX11_laysBox_0 hl 2 rfl rfl ?_
  refine x_lstore 3 C dX11_laysBox_1 [(5, .long v3), (0, .ref (h 0)), (1, .long v1), (3, .long v3)] hl rfl rfl rfl (fun ls hl => ?_)
  refine x_lload_n 4 C dX11_laysBox_3 hl 2 rfl rfl ?_
  refine x_lload_n 5 C dX11_laysBox_4 hl 3 rfl rfl ?_
  refine x_lsub 6 C dX11_laysBox_5 rfl ?_
  refine x_lstore 8 C dX11_laysBox_6 [(7, .long (v1 - v3)), (5, .long v3), (0, .ref (h 0)), (1, .long v1), (3, .long v3)] hl rfl rfl rfl (fun ls hl => ?_)
  refine x_lconst 9 C dX11_laysBox_8 (1 : Int64) kv_lconst_1 rfl ?_
  refine x_lstore 11 C dX11_laysBox_9 [(9, .long (1 : Int64)), (7, .long (v1 - v3)), (5, .long v3), (0, .ref (h 0)), (1, .long v1), (3, .long v3)] hl rfl rfl rfl (fun ls hl => ?_)
  refine x_lconst 12 C dX11_laysBox_11 (0 : Int64) kv_lconst_0 rfl ?_
  refine x_lstore 14 C dX11_laysBox_12 [(11, .long (0 : Int64)), (9, .long (1 : Int64)), (7, .long (v1 - v3)), (5, .long v3), (0, .ref (h 0)), (1, .long v1), (3, .long v3)] hl rfl rfl rfl (fun ls hl => ?_)
  refine x_lconst 15 C dX11_laysBox_14 (0 : Int64) kv_lconst_0 rfl ?_
  refine x_lstore 17 C dX11_laysBox_15 [(13, .long (0 : Int64)), (11, .long (0 : Int64)), (9, .long (1 : Int64)), (7, .long (v1 - v3)), (5, .long v3), (0, .ref (h 0)), (1, .long v1), (3, .long v3)] hl rfl rfl rfl (fun ls hl => ?_)
  refine x_lconst 18 C dX11_laysBox_17 (1 : Int64) kv_lconst_1 rfl ?_
  refine x_lstore 20 C dX11_laysBox_18 [(15, .long (1 : Int64)), (13, .long (0 : Int64)), (11, .long (0 : Int64)), (9, .long (1 : Int64)), (7, .long (v1 - v3)), (5, .long v3), (0, .ref (h 0)), (1, .long v1), (3, .long v3)] hl rfl rfl rfl (fun ls hl => ?_)
  exact w_X11_laysBox_20 h C N x m_taped m_states m_ra m_rb m_threes m_primes m_ones m_unit m_allParts m_allNorms m_allClasses m_odd m_partingMany m_qa m_qb m_la m_lb m_sa m_sb m_ta m_tb m_listed m_tells m_wanted m_found m_bits m_power2 m_rings m_ringA m_ringB m_seedNow m_tape m_has m_keptHas m_first m_second m_keptFirst m_keptSecond m_pa m_pb m_pNorm m_cubed m_isOpen m_signs m_often m_la0 m_lb0 R  N m_boxWide m_boxHigh m_boxStep v1 v3 v3 (v1 - v3) (1 : Int64) (0 : Int64) (0 : Int64) (1 : Int64) _ _ _ X (lv_sub hl [6, 7, 8, 5, 4, 3, 2, 1, 0] rfl) hf
set_option maxHeartbeats 4000000 in
set_option maxRecDepth 100000 in
theorem c_X11_timesIn (l : Launch) (D : va_G) (T : KT) (h : Nat → Nat) (v1 v3 v5 v7 : Int64) (m_taped m_states : Int32) (m_ra m_rb : Int64) (m_threes m_primes m_ones m_unit : Int32) (m_allParts m_allNorms m_allClasses : Int64) (m_odd : Int32) (m_boxWide m_boxHigh m_boxStep : Int64) (m_partingMany : Int32) (m_qa m_qb m_la m_lb m_sa m_sb m_ta m_tb : Int64) (m_listed m_tells m_wanted m_found : Int32) (m_bits : Int64) (m_power2 m_rings m_ringA m_ringB m_seedNow : Int32) (m_tape m_has m_keptHas m_first m_second m_keptFirst m_keptSecond m_pa m_pb m_pNorm m_cubed m_isOpen m_signs m_often m_la0 m_lb0 : Nat → Int32) (x : Int64 × Int64) (hf : f_X11_timesIn v1 v3 v5 v7 m_boxWide m_boxHigh m_boxStep = some x) : kx_MV l yX11_timesIn cX11_timesIn 9 none 3 76 D T [.ref (h 0), .long v1, .long v3, .long v5, .long v7] (wM T h m_taped m_states m_ra m_rb m_threes m_primes m_ones m_unit m_allParts m_allNorms m_allClasses m_odd m_boxWide m_boxHigh m_boxStep m_partingMany m_qa m_qb m_la m_lb m_sa m_sb m_ta m_tb m_listed m_tells m_wanted m_found m_bits m_power2 m_rings m_ringA m_ringB m_seedNow m_tape m_has m_keptHas m_first m_second m_keptFirst m_keptSecond m_pa m_pb m_pNorm m_cubed m_isOpen m_signs m_often m_la0 m_lb0) (wM T h m_taped m_states x.1 x.2 m_threes m_primes m_ones m_unit m_allParts m_allNorms m_allClasses m_odd m_boxWide m_boxHigh m_boxStep m_partingMany m_qa m_qb m_la m_lb m_sa m_sb m_ta m_tb m_listed m_tells m_wanted m_found m_bits m_power2 m_rings m_ringA m_ringB m_seedNow m_tape m_has m_keptHas m_first m_second m_keptFirst m_keptSecond m_pa m_pb m_pNorm m_cubed m_isOpen m_signs m_often m_la0 m_lb0) := by
  refine kx_ofMV RX11 rfl (plainFor_of_name (x := yX11_timesIn) kpn_X11) rfl ?_
  intro E A H ls _ C X R hl
  have hl : lv_has ls 9 [(0, .ref (h 0)), (1, .long v1), (3, .long v3), (5, .long v5), (7, .long v7)] := hl
  rw [f_X11_timesIn] at hf
  refine x_aload_n 1 C dX11_timesIn_0 hl 0 rfl rfl ?_
  refine x_lload_n 2 C dX11_timesIn_1 hl 1 rfl rfl ?_
  refine x_lload_n 3 C dX11_timesIn_2 hl 2 rfl rfl ?_
  refine x_lload 5 C dX11_timesIn_3 hl 3 rfl rfl ?_
  refine x_lload 7 C dX11_timesIn_5 hl 4 rfl rfl ?_
  obtain ⟨y7, hy7, hf⟩ := kx_bind hf
  refine x_callVv0 10 C dX11_timesIn_7 X hl kl_X11_121 (c_X11_times E.2.1 D T h v1 v3 v5 v7 m_taped m_states m_ra m_rb m_threes m_primes m_ones m_unit m_allParts m_allNorms m_allClasses m_odd m_boxWide m_boxHigh m_boxStep m_partingMany m_qa m_qb m_la m_lb m_sa m_sb m_ta m_tb m_listed m_tells m_wanted m_found m_bits m_power2 m_rings m_ringA m_ringB m_seedNow m_tape m_has m_keptHas m_first m_second m_keptFirst m_keptSecond m_pa m_pb m_pNorm m_cubed m_isOpen m_signs m_often m_la0 m_lb0 y7 hy7) rfl rfl [] rfl rfl rfl rfl rfl rfl (fun H locs X => ?_)
  refine x_aload_n 11 C dX11_timesIn_10 hl 0 rfl rfl ?_
  refine x_aload_n 12 C dX11_timesIn_11 hl 0 rfl rfl ?_
  refine x_get 15 C dX11_timesIn_12 X kf_X11_105 0 rfl rfl rfl ?_
  refine x_aload_n 16 C dX11_timesIn_15 hl 0 rfl rfl ?_
  refine x_get 19 C dX11_timesIn_16 X kf_X11_109 0 rfl rfl rfl ?_
  obtain ⟨y19, hy19, hf⟩ := kx_bind hf
  refine x_callVv0 22 C dX11_timesIn_19 X hl kl_X11_259 (c_X11_boxes E.2.1 D T h y7.1 y7.2 m_taped m_states y7.1 y7.2 m_threes m_primes m_ones m_unit m_allParts m_allNorms m_allClasses m_odd m_boxWide m_boxHigh m_boxStep m_partingMany m_qa m_qb m_la m_lb m_sa m_sb m_ta m_tb m_listed m_tells m_wanted m_found m_bits m_power2 m_rings m_ringA m_ringB m_seedNow m_tape m_has m_keptHas m_first m_second m_keptFirst m_keptSecond m_pa m_pb m_pNorm m_cubed m_isOpen m_signs m_often m_la0 m_lb0 y19 hy19) rfl rfl [] rfl rfl rfl rfl rfl rfl (fun H locs X => ?_)
  obtain rfl := Option.some.inj hf
  exact R _ _ _ _ X dX11_timesIn_22
set_option maxHeartbeats 4000000 in
set_option maxRecDepth 100000 in
theorem w_X11_powers_77 {E : KE} {A : Nat → Prop} {D : va_G} {T : KT} (h : Nat → Nat) (C : kx_C E cX11_powers 15 none RX11 4 104 D T) (N : Nat) (x : Int64 × Int64) (m_taped m_states m_threes m_primes m_ones m_unit : Int32) (m_allParts m_allNorms m_allClasses : Int64) (m_odd : Int32) (m_boxWide m_boxHigh m_boxStep : Int64) (m_partingMany : Int32) (m_qa m_qb m_la m_lb m_sa m_sb m_ta m_tb : Int64) (m_listed m_tells m_wanted m_found : Int32) (m_bits : Int64) (m_power2 m_rings m_ringA m_ringB m_seedNow : Int32) (m_tape m_has m_keptHas m_first m_second m_keptFirst m_keptSecond m_pa m_pb m_pNorm m_cubed m_isOpen m_signs m_often m_la0 m_lb0 : Nat → Int32) (R : kx_RV E cX11_powers D A (wM T h m_taped m_states x.1 x.2 m_threes m_primes m_ones m_unit m_allParts m_allNorms m_allClasses m_odd m_boxWide m_boxHigh m_boxStep m_partingMany m_qa m_qb m_la m_lb m_sa m_sb m_ta m_tb m_listed m_tells m_wanted m_found m_bits m_power2 m_rings m_ringA m_ringB m_seedNow m_tape m_has m_keptHas m_first m_second m_keptFirst m_keptSecond m_pa m_pb m_pNorm m_cubed m_isOpen m_signs m_often m_la0 m_lb0)) (k40 : Int64 → Int64 → Int64 → Int64 → Int32 → Int64 → Int64 → Int64 → Option (Int64 × Int64)) (hk40 : ∀ (m_ra m_rb : Int64) (v6 v8 v10 v12 : Int64) (v14 : Int32) (H : Heap) (locs : List Loc) (ls : Array Slot), kx_H E D A H locs (wM T h m_taped m_states m_ra m_rb m_threes m_primes m_ones m_unit m_allParts m_allNorms m_allClasses m_odd m_boxWide m_boxHigh m_boxStep m_partingMany m_qa m_qb m_la m_lb m_sa m_sb m_ta m_tb m_listed m_tells m_wanted m_found m_bits m_power2 m_rings m_ringA m_ringB m_seedNow m_tape m_has m_keptHas m_first m_second m_keptFirst m_keptSecond m_pa m_pb m_pNorm m_cubed m_isOpen m_signs m_often m_la0 m_lb0) → lv_has ls 15 [(0, .ref (h 0)), (6, .long v6), (8, .long v8), (10, .long v10), (12, .long v12), (14, .int v14)] → k40 v6 v8 v10 v12 v14 m_boxWide m_boxHigh m_boxStep = some x → kx_W E H locs 40 ls []) : ∀ (m_ra m_rb : Int64) (v6 v8 v10 v12 : Int64) (v14 : Int32) (H : Heap) (locs : List Loc) (ls : Array Slot), kx_H E D A H locs (wM T h m_taped m_states m_ra m_rb m_threes m_primes m_ones m_unit m_allParts m_allNorms m_allClasses m_odd m_boxWide m_boxHigh m_boxStep m_partingMany m_qa m_qb m_la m_lb m_sa m_sb m_ta m_tb m_listed m_tells m_wanted m_found m_bits m_power2 m_rings m_ringA m_ringB m_seedNow m_tape m_has m_keptHas m_first m_second m_keptFirst m_keptSecond m_pa m_pb m_pNorm m_cubed m_isOpen m_signs m_often m_la0 m_lb0) → lv_has ls 15 [(0, .ref (h 0)), (6, .long v6), (8, .long v8), (10, .long v10), (12, .long v12), (14, .int v14)] → f_X11_powers_77 N k40 v6 v8 v10 v12 v14 m_boxWide m_boxHigh m_boxStep = some x → kx_W E H locs 77 ls [] := by
  intro m_ra m_rb v6 v8 v10 v12 v14 H locs ls X hl hf
  rw [f_X11_powers_77] at hf
  refine x_aload_n 78 C dX11_powers_77 hl 0 rfl rfl ?_
  refine x_lload 80 C dX11_powers_78 hl 1 rfl rfl ?_
  refine x_lload 82 C dX11_powers_80 hl 2 rfl rfl ?_
  refine x_lload 84 C dX11_powers_82 hl 1 rfl rfl ?_
  refine x_lload 86 C dX11_powers_84 hl 2 rfl rfl ?_
  obtain ⟨y86, hy86, hf⟩ := kx_bind hf
  refine x_callVv0 89 C dX11_powers_86 X hl kl_X11_262 (c_X11_timesIn E.2.1 D T h v6 v8 v6 v8 m_taped m_states m_ra m_rb m_threes m_primes m_ones m_unit m_allParts m_allNorms m_allClasses m_odd m_boxWide m_boxHigh m_boxStep m_partingMany m_qa m_qb m_la m_lb m_sa m_sb m_ta m_tb m_listed m_tells m_wanted m_found m_bits m_power2 m_rings m_ringA m_ringB m_seedNow m_tape m_has m_keptHas m_first m_second m_keptFirst m_keptSecond m_pa m_pb m_pNorm m_cubed m_isOpen m_signs m_often m_la0 m_lb0 y86 hy86) rfl rfl [] rfl rfl rfl rfl rfl rfl (fun H locs X => ?_)
  refine x_aload_n 90 C dX11_powers_89 hl 0 rfl rfl ?_
  refine x_get 93 C dX11_powers_90 X kf_X11_105 0 rfl rfl rfl ?_
  refine x_lstore 95 C dX11_powers_93 [(6, .long y86.1), (0, .ref (h 0)), (8, .long v8), (10, .long v10), (12, .long v12), (14, .int v14)] hl rfl rfl rfl (fun ls hl => ?_)
  refine x_aload_n 96 C dX11_powers_95 hl 1 rfl rfl ?_
  refine x_get 99 C dX11_powers_96 X kf_X11_109 0 rfl rfl rfl ?_
  refine x_lstore 101 C dX11_powers_99 [(8, .long y86.2), (6, .long y86.1), (0, .ref (h 0)), (10, .long v10), (12, .long v12), (14, .int v14)] hl rfl rfl rfl (fun ls hl => ?_)
  refine x_iload 103 C dX11_powers_101 hl 5 rfl rfl ?_
  refine x_iconst 104 C dX11_powers_103 (2 : Int32) kv_iconst_2 rfl ?_
  refine x_idiv0 105 C dX11_powers_104 kz_i_2 rfl ?_
  refine x_istore 107 C dX11_powers_105 [(14, .int (v14 / (2 : Int32))), (8, .long y86.2), (6, .long y86.1), (0, .ref (h 0)), (10, .long v10), (12, .long v12)] hl rfl rfl rfl (fun ls hl => ?_)
  refine x_goto 40 C dX11_powers_107 rfl ?_
  exact hk40 y86.1 y86.2 y86.1 y86.2 v10 v12 (v14 / (2 : Int32)) _ _ _ X (lv_sub hl [3, 2, 1, 4, 5, 0] rfl) hf
set_option maxHeartbeats 4000000 in
set_option maxRecDepth 100000 in
theorem w_X11_powers_40 {E : KE} {A : Nat → Prop} {D : va_G} {T : KT} (h : Nat → Nat) (C : kx_C E cX11_powers 15 none RX11 4 104 D T) (N : Nat) (x : Int64 × Int64) (m_taped m_states m_threes m_primes m_ones m_unit : Int32) (m_allParts m_allNorms m_allClasses : Int64) (m_odd : Int32) (m_boxWide m_boxHigh m_boxStep : Int64) (m_partingMany : Int32) (m_qa m_qb m_la m_lb m_sa m_sb m_ta m_tb : Int64) (m_listed m_tells m_wanted m_found : Int32) (m_bits : Int64) (m_power2 m_rings m_ringA m_ringB m_seedNow : Int32) (m_tape m_has m_keptHas m_first m_second m_keptFirst m_keptSecond m_pa m_pb m_pNorm m_cubed m_isOpen m_signs m_often m_la0 m_lb0 : Nat → Int32) (R : kx_RV E cX11_powers D A (wM T h m_taped m_states x.1 x.2 m_threes m_primes m_ones m_unit m_allParts m_allNorms m_allClasses m_odd m_boxWide m_boxHigh m_boxStep m_partingMany m_qa m_qb m_la m_lb m_sa m_sb m_ta m_tb m_listed m_tells m_wanted m_found m_bits m_power2 m_rings m_ringA m_ringB m_seedNow m_tape m_has m_keptHas m_first m_second m_keptFirst m_keptSecond m_pa m_pb m_pNorm m_cubed m_isOpen m_signs m_often m_la0 m_lb0)) : ∀ (k : Nat), ∀ (m_ra m_rb : Int64) (v6 v8 v10 v12 : Int64) (v14 : Int32) (H : Heap) (locs : List Loc) (ls : Array Slot), kx_H E D A H locs (wM T h m_taped m_states m_ra m_rb m_threes m_primes m_ones m_unit m_allParts m_allNorms m_allClasses m_odd m_boxWide m_boxHigh m_boxStep m_partingMany m_qa m_qb m_la m_lb m_sa m_sb m_ta m_tb m_listed m_tells m_wanted m_found m_bits m_power2 m_rings m_ringA m_ringB m_seedNow m_tape m_has m_keptHas m_first m_second m_keptFirst m_keptSecond m_pa m_pb m_pNorm m_cubed m_isOpen m_signs m_often m_la0 m_lb0) → lv_has ls 15 [(0, .ref (h 0)), (6, .long v6), (8, .long v8), (10, .long v10), (12, .long v12), (14, .int v14)] → f_X11_powers_40 N k v6 v8 v10 v12 v14 m_boxWide m_boxHigh m_boxStep = some x → kx_W E H locs 40 ls [] := by
  intro k
  induction k with
  | zero =>
    intro m_ra m_rb v6 v8 v10 v12 v14 H locs ls X hl hf
    cases (show (none : Option (Int64 × Int64)) = some x from hf)
  | succ k ih =>
    intro m_ra m_rb v6 v8 v10 v12 v14 H locs ls X hl hf
    rw [f_X11_powers_40] at hf
    refine x_iload 42 C dX11_powers_40 hl 5 rfl rfl ?_
    refine x_if_le 110 45 C dX11_powers_42 rfl rfl hf (fun hf => ?_) (fun hf => ?_)
    · refine x_aload_n 111 C dX11_powers_110 hl 0 rfl rfl ?_
      refine x_lload 113 C dX11_powers_111 hl 3 rfl rfl ?_
      refine x_lload 115 C dX11_powers_113 hl 4 rfl rfl ?_
      obtain ⟨y115, hy115, hf⟩ := kx_bind hf
      refine x_callVv0 118 C dX11_powers_115 X hl kl_X11_115 (c_X11_sets E.2.1 D T h v10 v12 m_taped m_states m_ra m_rb m_threes m_primes m_ones m_unit m_allParts m_allNorms m_allClasses m_odd m_boxWide m_boxHigh m_boxStep m_partingMany m_qa m_qb m_la m_lb m_sa m_sb m_ta m_tb m_listed m_tells m_wanted m_found m_bits m_power2 m_rings m_ringA m_ringB m_seedNow m_tape m_has m_keptHas m_first m_second m_keptFirst m_keptSecond m_pa m_pb m_pNorm m_cubed m_isOpen m_signs m_often m_la0 m_lb0 y115 hy115) rfl rfl [] rfl rfl rfl rfl rfl rfl (fun H locs X => ?_)
      obtain rfl := Option.some.inj hf
      exact R _ _ _ _ X dX11_powers_118
    refine x_iload 47 C dX11_powers_45 hl 5 rfl rfl ?_
    refine x_iconst 48 C dX11_powers_47 (2 : Int32) kv_iconst_2 rfl ?_
    refine x_irem0 49 C dX11_powers_48 kz_i_2 rfl ?_
    refine x_iconst 50 C dX11_powers_49 (1 : Int32) kv_iconst_1 rfl ?_
    refine x_icmp_ne 77 53 C dX11_powers_50 rfl rfl hf (fun hf => ?_) (fun hf => ?_)
    · exact w_X11_powers_77 h C N x m_taped m_states m_threes m_primes m_ones m_unit m_allParts m_allNorms m_allClasses m_odd m_boxWide m_boxHigh m_boxStep m_partingMany m_qa m_qb m_la m_lb m_sa m_sb m_ta m_tb m_listed m_tells m_wanted m_found m_bits m_power2 m_rings m_ringA m_ringB m_seedNow m_tape m_has m_keptHas m_first m_second m_keptFirst m_keptSecond m_pa m_pb m_pNorm m_cubed m_isOpen m_signs m_often m_la0 m_lb0 R (f_X11_powers_40 N k) ih m_ra m_rb v6 v8 v10 v12 v14 _ _ _ X (lv_sub hl [0, 1, 2, 3, 4, 5] rfl) hf
    refine x_aload_n 54 C dX11_powers_53 hl 0 rfl rfl ?_
    refine x_lload 56 C dX11_powers_54 hl 3 rfl rfl ?_
    refine x_lload 58 C dX11_powers_56 hl 4 rfl rfl ?_
    refine x_lload 60 C dX11_powers_58 hl 1 rfl rfl ?_
    refine x_lload 62 C dX11_powers_60 hl 2 rfl rfl ?_
    obtain ⟨y62, hy62, hf⟩ := kx_bind hf
    refine x_callVv0 65 C dX11_powers_62 X hl kl_X11_262 (c_X11_timesIn E.2.1 D T h v10 v12 v6 v8 m_taped m_states m_ra m_rb m_threes m_primes m_ones m_unit m_allParts m_allNorms m_allClasses m_odd m_boxWide m_boxHigh m_boxStep m_partingMany m_qa m_qb m_la m_lb m_sa m_sb m_ta m_tb m_listed m_tells m_wanted m_found m_bits m_power2 m_rings m_ringA m_ringB m_seedNow m_tape m_has m_keptHas m_first m_second m_keptFirst m_keptSecond m_pa m_pb m_pNorm m_cubed m_isOpen m_signs m_often m_la0 m_lb0 y62 hy62) rfl rfl [] rfl rfl rfl rfl rfl rfl (fun H locs X => ?_)
    refine x_aload_n 66 C dX11_powers_65 hl 0 rfl rfl ?_
    refine x_get 69 C dX11_powers_66 X kf_X11_105 0 rfl rfl rfl ?_
    refine x_lstore 71 C dX11_powers_69 [(10, .long y62.1), (0, .ref (h 0)), (6, .long v6), (8, .long v8), (12, .long v12), (14, .int v14)] hl rfl rfl rfl (fun ls hl => ?_)
    refine x_aload_n 72 C dX11_powers_71 hl 1 rfl rfl ?_
    refine x_get 75 C dX11_powers_72 X kf_X11_109 0 rfl rfl rfl ?_
    refine x_lstore 77 C dX11_powers_75 [(12, .long y62.2), (10, .long y62.1), (0, .ref (h 0)), (6, .long v6), (8, .long v8), (14, .int v14)] hl rfl rfl rfl (fun ls hl => ?_)
    exact w_X11_powers_77 h C N x m_taped m_states m_threes m_primes m_ones m_unit m_allParts m_allNorms m_allClasses m_odd m_boxWide m_boxHigh m_boxStep m_partingMany m_qa m_qb m_la m_lb m_sa m_sb m_ta m_tb m_listed m_tells m_wanted m_found m_bits m_power2 m_rings m_ringA m_ringB m_seedNow m_tape m_has m_keptHas m_first m_second m_keptFirst m_keptSecond m_pa m_pb m_pNorm m_cubed m_isOpen m_signs m_often m_la0 m_lb0 R (f_X11_powers_40 N k) ih y62.1 y62.2 v6 v8 y62.1 y62.2 v14 _ _ _ X (lv_sub hl [2, 3, 4, 1, 0, 5] rfl) hf
set_option maxHeartbeats 4000000 in
set_option maxRecDepth 100000 in
theorem c_X11_powers (l : Launch) (D : va_G) (T : KT) (h : Nat → Nat) (N : Nat) (v1 v3 : Int64) (v5 : Int32) (m_taped m_states : Int32) (m_ra m_rb : Int64) (m_threes m_primes m_ones m_unit : Int32) (m_allParts m_allNorms m_allClasses : Int64) (m_odd : Int32) (m_boxWide m_boxHigh m_boxStep : Int64) (m_partingMany : Int32) (m_qa m_qb m_la m_lb m_sa m_sb m_ta m_tb : Int64) (m_listed m_tells m_wanted m_found : Int32) (m_bits : Int64) (m_power2 m_rings m_ringA m_ringB m_seedNow : Int32) (m_tape m_has m_keptHas m_first m_second m_keptFirst m_keptSecond m_pa m_pb m_pNorm m_cubed m_isOpen m_signs m_often m_la0 m_lb0 : Nat → Int32) (x : Int64 × Int64) (hf : f_X11_powers N v1 v3 v5 m_boxWide m_boxHigh m_boxStep = some x) : kx_MV l yX11_powers cX11_powers 15 none 4 104 D T [.ref (h 0), .long v1, .long v3, .int v5] (wM T h m_taped m_states m_ra m_rb m_threes m_primes m_ones m_unit m_allParts m_allNorms m_allClasses m_odd m_boxWide m_boxHigh m_boxStep m_partingMany m_qa m_qb m_la m_lb m_sa m_sb m_ta m_tb m_listed m_tells m_wanted m_found m_bits m_power2 m_rings m_ringA m_ringB m_seedNow m_tape m_has m_keptHas m_first m_second m_keptFirst m_keptSecond m_pa m_pb m_pNorm m_cubed m_isOpen m_signs m_often m_la0 m_lb0) (wM T h m_taped m_states x.1 x.2 m_threes m_primes m_ones m_unit m_allParts m_allNorms m_allClasses m_odd m_boxWide m_boxHigh m_boxStep m_partingMany m_qa m_qb m_la m_lb m_sa m_sb m_ta m_tb m_listed m_tells m_wanted m_found m_bits m_power2 m_rings m_ringA m_ringB m_seedNow m_tape m_has m_keptHas m_first m_second m_keptFirst m_keptSecond m_pa m_pb m_pNorm m_cubed m_isOpen m_signs m_often m_la0 m_lb0) := by
  refine kx_ofMV RX11 rfl (plainFor_of_name (x := yX11_powers) kpn_X11) rfl ?_
  intro E A H ls _ C X R hl
  have hl : lv_has ls 15 [(0, .ref (h 0)), (1, .long v1), (3, .long v3), (5, .int v5)] := hl
  rw [f_X11_powers] at hf
  refine x_aload_n 1 C dX11_powers_0 hl 0 rfl rfl ?_
  refine x_lload_n 2 C dX11_powers_1 hl 1 rfl rfl ?_
  refine x_lload_n 3 C dX11_powers_2 hl 2 rfl rfl ?_
  obtain ⟨y3, hy3, hf⟩ := kx_bind hf
  refine x_callVv0 6 C dX11_powers_3 X hl kl_X11_259 (c_X11_boxes E.2.1 D T h v1 v3 m_taped m_states m_ra m_rb m_threes m_primes m_ones m_unit m_allParts m_allNorms m_allClasses m_odd m_boxWide m_boxHigh m_boxStep m_partingMany m_qa m_qb m_la m_lb m_sa m_sb m_ta m_tb m_listed m_tells m_wanted m_found m_bits m_power2 m_rings m_ringA m_ringB m_seedNow m_tape m_has m_keptHas m_first m_second m_keptFirst m_keptSecond m_pa m_pb m_pNorm m_cubed m_isOpen m_signs m_often m_la0 m_lb0 y3 hy3) rfl rfl [] rfl rfl rfl rfl rfl rfl (fun H locs X => ?_)
  refine x_aload_n 7 C dX11_powers_6 hl 0 rfl rfl ?_
  refine x_get 10 C dX11_powers_7 X kf_X11_105 0 rfl rfl rfl ?_
  refine x_lstore 12 C dX11_powers_10 [(6, .long y3.1), (0, .ref (h 0)), (1, .long v1), (3, .long v3), (5, .int v5)] hl rfl rfl rfl (fun ls hl => ?_)
  refine x_aload_n 13 C dX11_powers_12 hl 1 rfl rfl ?_
  refine x_get 16 C dX11_powers_13 X kf_X11_109 0 rfl rfl rfl ?_
  refine x_lstore 18 C dX11_powers_16 [(8, .long y3.2), (6, .long y3.1), (0, .ref (h 0)), (1, .long v1), (3, .long v3), (5, .int v5)] hl rfl rfl rfl (fun ls hl => ?_)
  refine x_aload_n 19 C dX11_powers_18 hl 2 rfl rfl ?_
  refine x_lconst 20 C dX11_powers_19 (1 : Int64) kv_lconst_1 rfl ?_
  refine x_lconst 21 C dX11_powers_20 (0 : Int64) kv_lconst_0 rfl ?_
  obtain ⟨y21, hy21, hf⟩ := kx_bind hf
  refine x_callVv0 24 C dX11_powers_21 X hl kl_X11_259 (c_X11_boxes E.2.1 D T h (1 : Int64) (0 : Int64) m_taped m_states y3.1 y3.2 m_threes m_primes m_ones m_unit m_allParts m_allNorms m_allClasses m_odd m_boxWide m_boxHigh m_boxStep m_partingMany m_qa m_qb m_la m_lb m_sa m_sb m_ta m_tb m_listed m_tells m_wanted m_found m_bits m_power2 m_rings m_ringA m_ringB m_seedNow m_tape m_has m_keptHas m_first m_second m_keptFirst m_keptSecond m_pa m_pb m_pNorm m_cubed m_isOpen m_signs m_often m_la0 m_lb0 y21 hy21) rfl rfl [] rfl rfl rfl rfl rfl rfl (fun H locs X => ?_)
  refine x_aload_n 25 C dX11_powers_24 hl 2 rfl rfl ?_
  refine x_get 28 C dX11_powers_25 X kf_X11_105 0 rfl rfl rfl ?_
  refine x_lstore 30 C dX11_powers_28 [(10, .long y21.1), (8, .long y3.2), (6, .long y3.1), (0, .ref (h 0)), (1, .long v1), (3, .long v3), (5, .int v5)] hl rfl rfl rfl (fun ls hl => ?_)
  refine x_aload_n 31 C dX11_powers_30 hl 3 rfl rfl ?_
  refine x_get 34 C dX11_powers_31 X kf_X11_109 0 rfl rfl rfl ?_
  refine x_lstore 36 C dX11_powers_34 [(12, .long y21.2), (10, .long y21.1), (8, .long y3.2), (6, .long y3.1), (0, .ref (h 0)), (1, .long v1), (3, .long v3), (5, .int v5)] hl rfl rfl rfl (fun ls hl => ?_)
  refine x_iload 38 C dX11_powers_36 hl 7 rfl rfl ?_
  refine x_istore 40 C dX11_powers_38 [(14, .int v5), (12, .long y21.2), (10, .long y21.1), (8, .long y3.2), (6, .long y3.1), (0, .ref (h 0)), (1, .long v1), (3, .long v3), (5, .int v5)] hl rfl rfl rfl (fun ls hl => ?_)
  exact w_X11_powers_40 h C N x m_taped m_states m_threes m_primes m_ones m_unit m_allParts m_allNorms m_allClasses m_odd m_boxWide m_boxHigh m_boxStep m_partingMany m_qa m_qb m_la m_lb m_sa m_sb m_ta m_tb m_listed m_tells m_wanted m_found m_bits m_power2 m_rings m_ringA m_ringB m_seedNow m_tape m_has m_keptHas m_first m_second m_keptFirst m_keptSecond m_pa m_pb m_pNorm m_cubed m_isOpen m_signs m_often m_la0 m_lb0 R  N y21.1 y21.2 y3.1 y3.2 y21.1 y21.2 v5 _ _ _ X (lv_sub hl [5, 4, 3, 2, 1, 0] rfl) hf
set_option maxHeartbeats 4000000 in
set_option maxRecDepth 100000 in
theorem w_X11_signAt_101 {E : KE} {A : Nat → Prop} {D : va_G} {T : KT} (h : Nat → Nat) (C : kx_C E cX11_signAt 14 (some .int) RX11 5 138 D T) (N : Nat) (x : Int32 × Int64 × Int64 × Int64 × Int64 × Int64) (m_taped m_states m_threes m_primes m_ones m_unit : Int32) (m_allParts m_allNorms m_allClasses : Int64) (m_odd m_partingMany : Int32) (m_qa m_qb m_la m_lb m_sa m_sb m_ta m_tb : Int64) (m_listed m_tells m_wanted m_found : Int32) (m_bits : Int64) (m_power2 m_rings m_ringA m_ringB m_seedNow : Int32) (m_tape m_has m_keptHas m_first m_second m_keptFirst m_keptSecond m_pa m_pb m_pNorm m_cubed m_isOpen m_signs m_often m_la0 m_lb0 : Nat → Int32) (R : kx_RI E cX11_signAt D A (wM T h m_taped m_states x.2.1 x.2.2.1 m_threes m_primes m_ones m_unit m_allParts m_allNorms m_allClasses m_odd x.2.2.2.1 x.2.2.2.2.1 x.2.2.2.2.2 m_partingMany m_qa m_qb m_la m_lb m_sa m_sb m_ta m_tb m_listed m_tells m_wanted m_found m_bits m_power2 m_rings m_ringA m_ringB m_seedNow m_tape m_has m_keptHas m_first m_second m_keptFirst m_keptSecond m_pa m_pb m_pNorm m_cubed m_isOpen m_signs m_often m_la0 m_lb0) x.1) (k61 : Int64 → Int64 → Int32 → Int64 → Int64 → Int64 → Int64 → Int64 → Option (Int32 × Int64 × Int64 × Int64 × Int64 × Int64)) (hk61 : ∀ (m_ra m_rb m_boxWide m_boxHigh m_boxStep : Int64) (v9 v11 : Int64) (v13 : Int32) (H : Heap) (locs : List Loc) (ls : Array Slot), kx_H E D A H locs (wM T h m_taped m_states m_ra m_rb m_threes m_primes m_ones m_unit m_allParts m_allNorms m_allClasses m_odd m_boxWide m_boxHigh m_boxStep m_partingMany m_qa m_qb m_la m_lb m_sa m_sb m_ta m_tb m_listed m_tells m_wanted m_found m_bits m_power2 m_rings m_ringA m_ringB m_seedNow m_tape m_has m_keptHas m_first m_second m_keptFirst m_keptSecond m_pa m_pb m_pNorm m_cubed m_isOpen m_signs m_often m_la0 m_lb0) → lv_has ls 14 [(0, .ref (h 0)), (9, .long v9), (11, .long v11), (13, .int v13)] → k61 v9 v11 v13 m_ra m_rb m_boxWide m_boxHigh m_boxStep = some x → kx_W E H locs 61 ls []) : ∀ (m_ra m_rb m_boxWide m_boxHigh m_boxStep : Int64) (v9 v11 : Int64) (v13 : Int32) (s1 : Int64) (H : Heap) (locs : List Loc) (ls : Array Slot), kx_H E D A H locs (wM T h m_taped m_states m_ra m_rb m_threes m_primes m_ones m_unit m_allParts m_allNorms m_allClasses m_odd m_boxWide m_boxHigh m_boxStep m_partingMany m_qa m_qb m_la m_lb m_sa m_sb m_ta m_tb m_listed m_tells m_wanted m_found m_bits m_power2 m_rings m_ringA m_ringB m_seedNow m_tape m_has m_keptHas m_first m_second m_keptFirst m_keptSecond m_pa m_pb m_pNorm m_cubed m_isOpen m_signs m_often m_la0 m_lb0) → lv_has ls 14 [(0, .ref (h 0)), (9, .long v9), (11, .long v11), (13, .int v13)] → f_X11_signAt_101 N k61 v9 v11 v13 s1 m_boxWide m_boxHigh m_boxStep = some x → kx_W E H locs 101 ls [.long s1, .ref (h 0)] := by
  intro m_ra m_rb m_boxWide m_boxHigh m_boxStep v9 v11 v13 s1 H locs ls X hl hf
  rw [f_X11_signAt_101] at hf
  refine x_iload 103 C dX11_signAt_101 hl 3 rfl rfl ?_
  refine x_iconst 104 C dX11_signAt_103 (1 : Int32) kv_iconst_1 rfl ?_
  refine x_icmp_ne 111 107 C dX11_signAt_104 rfl rfl hf (fun hf => ?_) (fun hf => ?_)
  · refine x_ldc2_w 114 C dX11_signAt_111 (-1 : Int64) kc_X11_151 rfl ?_
    obtain ⟨y114, hy114, hf⟩ := kx_bind hf
    refine x_callVv0 117 C dX11_signAt_114 X hl kl_X11_259 (c_X11_boxes E.2.1 D T h s1 (-1 : Int64) m_taped m_states m_ra m_rb m_threes m_primes m_ones m_unit m_allParts m_allNorms m_allClasses m_odd m_boxWide m_boxHigh m_boxStep m_partingMany m_qa m_qb m_la m_lb m_sa m_sb m_ta m_tb m_listed m_tells m_wanted m_found m_bits m_power2 m_rings m_ringA m_ringB m_seedNow m_tape m_has m_keptHas m_first m_second m_keptFirst m_keptSecond m_pa m_pb m_pNorm m_cubed m_isOpen m_signs m_often m_la0 m_lb0 y114 hy114) rfl rfl [] rfl rfl rfl rfl rfl rfl (fun H locs X => ?_)
    refine x_goto 61 C dX11_signAt_117 rfl ?_
    exact hk61 y114.1 y114.2 m_boxWide m_boxHigh m_boxStep v9 v11 v13 _ _ _ X (lv_sub hl [0, 1, 2, 3] rfl) hf
  refine x_lconst 108 C dX11_signAt_107 (1 : Int64) kv_lconst_1 rfl ?_
  refine x_goto 114 C dX11_signAt_108 rfl ?_
  obtain ⟨y114, hy114, hf⟩ := kx_bind hf
  refine x_callVv0 117 C dX11_signAt_114 X hl kl_X11_259 (c_X11_boxes E.2.1 D T h s1 (1 : Int64) m_taped m_states m_ra m_rb m_threes m_primes m_ones m_unit m_allParts m_allNorms m_allClasses m_odd m_boxWide m_boxHigh m_boxStep m_partingMany m_qa m_qb m_la m_lb m_sa m_sb m_ta m_tb m_listed m_tells m_wanted m_found m_bits m_power2 m_rings m_ringA m_ringB m_seedNow m_tape m_has m_keptHas m_first m_second m_keptFirst m_keptSecond m_pa m_pb m_pNorm m_cubed m_isOpen m_signs m_often m_la0 m_lb0 y114 hy114) rfl rfl [] rfl rfl rfl rfl rfl rfl (fun H locs X => ?_)
  refine x_goto 61 C dX11_signAt_117 rfl ?_
  exact hk61 y114.1 y114.2 m_boxWide m_boxHigh m_boxStep v9 v11 v13 _ _ _ X (lv_sub hl [0, 1, 2, 3] rfl) hf
set_option maxHeartbeats 4000000 in
set_option maxRecDepth 100000 in
theorem w_X11_signAt_81 {E : KE} {A : Nat → Prop} {D : va_G} {T : KT} (h : Nat → Nat) (C : kx_C E cX11_signAt 14 (some .int) RX11 5 138 D T) (N : Nat) (x : Int32 × Int64 × Int64 × Int64 × Int64 × Int64) (m_taped m_states m_threes m_primes m_ones m_unit : Int32) (m_allParts m_allNorms m_allClasses : Int64) (m_odd m_partingMany : Int32) (m_qa m_qb m_la m_lb m_sa m_sb m_ta m_tb : Int64) (m_listed m_tells m_wanted m_found : Int32) (m_bits : Int64) (m_power2 m_rings m_ringA m_ringB m_seedNow : Int32) (m_tape m_has m_keptHas m_first m_second m_keptFirst m_keptSecond m_pa m_pb m_pNorm m_cubed m_isOpen m_signs m_often m_la0 m_lb0 : Nat → Int32) (R : kx_RI E cX11_signAt D A (wM T h m_taped m_states x.2.1 x.2.2.1 m_threes m_primes m_ones m_unit m_allParts m_allNorms m_allClasses m_odd x.2.2.2.1 x.2.2.2.2.1 x.2.2.2.2.2 m_partingMany m_qa m_qb m_la m_lb m_sa m_sb m_ta m_tb m_listed m_tells m_wanted m_found m_bits m_power2 m_rings m_ringA m_ringB m_seedNow m_tape m_has m_keptHas m_first m_second m_keptFirst m_keptSecond m_pa m_pb m_pNorm m_cubed m_isOpen m_signs m_often m_la0 m_lb0) x.1) (k61 : Int64 → Int64 → Int32 → Int64 → Int64 → Int64 → Int64 → Int64 → Option (Int32 × Int64 × Int64 × Int64 × Int64 × Int64)) (hk61 : ∀ (m_ra m_rb m_boxWide m_boxHigh m_boxStep : Int64) (v9 v11 : Int64) (v13 : Int32) (H : Heap) (locs : List Loc) (ls : Array Slot), kx_H E D A H locs (wM T h m_taped m_states m_ra m_rb m_threes m_primes m_ones m_unit m_allParts m_allNorms m_allClasses m_odd m_boxWide m_boxHigh m_boxStep m_partingMany m_qa m_qb m_la m_lb m_sa m_sb m_ta m_tb m_listed m_tells m_wanted m_found m_bits m_power2 m_rings m_ringA m_ringB m_seedNow m_tape m_has m_keptHas m_first m_second m_keptFirst m_keptSecond m_pa m_pb m_pNorm m_cubed m_isOpen m_signs m_often m_la0 m_lb0) → lv_has ls 14 [(0, .ref (h 0)), (9, .long v9), (11, .long v11), (13, .int v13)] → k61 v9 v11 v13 m_ra m_rb m_boxWide m_boxHigh m_boxStep = some x → kx_W E H locs 61 ls []) : ∀ (m_ra m_rb m_boxWide m_boxHigh m_boxStep : Int64) (v9 v11 : Int64) (v13 : Int32) (H : Heap) (locs : List Loc) (ls : Array Slot), kx_H E D A H locs (wM T h m_taped m_states m_ra m_rb m_threes m_primes m_ones m_unit m_allParts m_allNorms m_allClasses m_odd m_boxWide m_boxHigh m_boxStep m_partingMany m_qa m_qb m_la m_lb m_sa m_sb m_ta m_tb m_listed m_tells m_wanted m_found m_bits m_power2 m_rings m_ringA m_ringB m_seedNow m_tape m_has m_keptHas m_first m_second m_keptFirst m_keptSecond m_pa m_pb m_pNorm m_cubed m_isOpen m_signs m_often m_la0 m_lb0) → lv_has ls 14 [(0, .ref (h 0)), (9, .long v9), (11, .long v11), (13, .int v13)] → f_X11_signAt_81 N k61 v9 v11 v13 m_boxWide m_boxHigh m_boxStep = some x → kx_W E H locs 81 ls [] := by
  intro m_ra m_rb m_boxWide m_boxHigh m_boxStep v9 v11 v13 H locs ls X hl hf
  rw [f_X11_signAt_81] at hf
  refine x_iload 83 C dX11_signAt_81 hl 3 rfl rfl ?_
  refine x_iconst 84 C dX11_signAt_83 (1 : Int32) kv_iconst_1 rfl ?_
  refine x_iadd 85 C dX11_signAt_84 rfl ?_
  refine x_istore 87 C dX11_signAt_85 [(13, .int (v13 + (1 : Int32))), (0, .ref (h 0)), (9, .long v9), (11, .long v11)] hl rfl rfl rfl (fun ls hl => ?_)
  refine x_aload_n 88 C dX11_signAt_87 hl 1 rfl rfl ?_
  refine x_iload 90 C dX11_signAt_88 hl 0 rfl rfl ?_
  refine x_iconst 91 C dX11_signAt_90 (1 : Int32) kv_iconst_1 rfl ?_
  refine x_icmp_ne 98 94 C dX11_signAt_91 rfl rfl hf (fun hf => ?_) (fun hf => ?_)
  · refine x_ldc2_w 101 C dX11_signAt_98 (-1 : Int64) kc_X11_151 rfl ?_
    exact w_X11_signAt_101 h C N x m_taped m_states m_threes m_primes m_ones m_unit m_allParts m_allNorms m_allClasses m_odd m_partingMany m_qa m_qb m_la m_lb m_sa m_sb m_ta m_tb m_listed m_tells m_wanted m_found m_bits m_power2 m_rings m_ringA m_ringB m_seedNow m_tape m_has m_keptHas m_first m_second m_keptFirst m_keptSecond m_pa m_pb m_pNorm m_cubed m_isOpen m_signs m_often m_la0 m_lb0 R (k61) hk61 m_ra m_rb m_boxWide m_boxHigh m_boxStep v9 v11 (v13 + (1 : Int32)) (-1 : Int64) _ _ _ X (lv_sub hl [1, 2, 3, 0] rfl) hf
  refine x_lconst 95 C dX11_signAt_94 (0 : Int64) kv_lconst_0 rfl ?_
  refine x_goto 101 C dX11_signAt_95 rfl ?_
  exact w_X11_signAt_101 h C N x m_taped m_states m_threes m_primes m_ones m_unit m_allParts m_allNorms m_allClasses m_odd m_partingMany m_qa m_qb m_la m_lb m_sa m_sb m_ta m_tb m_listed m_tells m_wanted m_found m_bits m_power2 m_rings m_ringA m_ringB m_seedNow m_tape m_has m_keptHas m_first m_second m_keptFirst m_keptSecond m_pa m_pb m_pNorm m_cubed m_isOpen m_signs m_often m_la0 m_lb0 R (k61) hk61 m_ra m_rb m_boxWide m_boxHigh m_boxStep v9 v11 (v13 + (1 : Int32)) (0 : Int64) _ _ _ X (lv_sub hl [1, 2, 3, 0] rfl) hf
set_option maxHeartbeats 4000000 in
set_option maxRecDepth 100000 in
theorem w_X11_signAt_61 {E : KE} {A : Nat → Prop} {D : va_G} {T : KT} (h : Nat → Nat) (C : kx_C E cX11_signAt 14 (some .int) RX11 5 138 D T) (N : Nat) (x : Int32 × Int64 × Int64 × Int64 × Int64 × Int64) (m_taped m_states m_threes m_primes m_ones m_unit : Int32) (m_allParts m_allNorms m_allClasses : Int64) (m_odd m_partingMany : Int32) (m_qa m_qb m_la m_lb m_sa m_sb m_ta m_tb : Int64) (m_listed m_tells m_wanted m_found : Int32) (m_bits : Int64) (m_power2 m_rings m_ringA m_ringB m_seedNow : Int32) (m_tape m_has m_keptHas m_first m_second m_keptFirst m_keptSecond m_pa m_pb m_pNorm m_cubed m_isOpen m_signs m_often m_la0 m_lb0 : Nat → Int32) (R : kx_RI E cX11_signAt D A (wM T h m_taped m_states x.2.1 x.2.2.1 m_threes m_primes m_ones m_unit m_allParts m_allNorms m_allClasses m_odd x.2.2.2.1 x.2.2.2.2.1 x.2.2.2.2.2 m_partingMany m_qa m_qb m_la m_lb m_sa m_sb m_ta m_tb m_listed m_tells m_wanted m_found m_bits m_power2 m_rings m_ringA m_ringB m_seedNow m_tape m_has m_keptHas m_first m_second m_keptFirst m_keptSecond m_pa m_pb m_pNorm m_cubed m_isOpen m_signs m_often m_la0 m_lb0) x.1) : ∀ (k : Nat), ∀ (m_ra m_rb m_boxWide m_boxHigh m_boxStep : Int64) (v9 v11 : Int64) (v13 : Int32) (H : Heap) (locs : List Loc) (ls : Array Slot), kx_H E D A H locs (wM T h m_taped m_states m_ra m_rb m_threes m_primes m_ones m_unit m_allParts m_allNorms m_allClasses m_odd m_boxWide m_boxHigh m_boxStep m_partingMany m_qa m_qb m_la m_lb m_sa m_sb m_ta m_tb m_listed m_tells m_wanted m_found m_bits m_power2 m_rings m_ringA m_ringB m_seedNow m_tape m_has m_keptHas m_first m_second m_keptFirst m_keptSecond m_pa m_pb m_pNorm m_cubed m_isOpen m_signs m_often m_la0 m_lb0) → lv_has ls 14 [(0, .ref (h 0)), (9, .long v9), (11, .long v11), (13, .int v13)] → f_X11_signAt_61 N k v9 v11 v13 m_ra m_rb m_boxWide m_boxHigh m_boxStep = some x → kx_W E H locs 61 ls [] := by
  intro k
  induction k with
  | zero =>
    intro m_ra m_rb m_boxWide m_boxHigh m_boxStep v9 v11 v13 H locs ls X hl hf
    cases (show (none : Option (Int32 × Int64 × Int64 × Int64 × Int64 × Int64)) = some x from hf)
  | succ k ih =>
    intro m_ra m_rb m_boxWide m_boxHigh m_boxStep v9 v11 v13 H locs ls X hl hf
    rw [f_X11_signAt_61] at hf
    refine x_aload_n 62 C dX11_signAt_61 hl 0 rfl rfl ?_
    refine x_get 65 C dX11_signAt_62 X kf_X11_105 0 rfl rfl rfl ?_
    refine x_lload 67 C dX11_signAt_65 hl 1 rfl rfl ?_
    refine x_lcmp_ne 81 68 71 C dX11_signAt_67 dX11_signAt_68 rfl rfl rfl hf (fun hf => ?_) (fun hf => ?_)
    · exact w_X11_signAt_81 h C N x m_taped m_states m_threes m_primes m_ones m_unit m_allParts m_allNorms m_allClasses m_odd m_partingMany m_qa m_qb m_la m_lb m_sa m_sb m_ta m_tb m_listed m_tells m_wanted m_found m_bits m_power2 m_rings m_ringA m_ringB m_seedNow m_tape m_has m_keptHas m_first m_second m_keptFirst m_keptSecond m_pa m_pb m_pNorm m_cubed m_isOpen m_signs m_often m_la0 m_lb0 R (f_X11_signAt_61 N k) ih m_ra m_rb m_boxWide m_boxHigh m_boxStep v9 v11 v13 _ _ _ X (lv_sub hl [0, 1, 2, 3] rfl) hf
    refine x_aload_n 72 C dX11_signAt_71 hl 0 rfl rfl ?_
    refine x_get 75 C dX11_signAt_72 X kf_X11_109 0 rfl rfl rfl ?_
    refine x_lload 77 C dX11_signAt_75 hl 2 rfl rfl ?_
    refine x_lcmp_eq 120 78 81 C dX11_signAt_77 dX11_signAt_78 rfl rfl rfl hf (fun hf => ?_) (fun hf => ?_)
    · refine x_iload 122 C dX11_signAt_120 hl 3 rfl rfl ?_
      obtain rfl := Option.some.inj hf
      exact R _ _ _ _ X dX11_signAt_122
    exact w_X11_signAt_81 h C N x m_taped m_states m_threes m_primes m_ones m_unit m_allParts m_allNorms m_allClasses m_odd m_partingMany m_qa m_qb m_la m_lb m_sa m_sb m_ta m_tb m_listed m_tells m_wanted m_found m_bits m_power2 m_rings m_ringA m_ringB m_seedNow m_tape m_has m_keptHas m_first m_second m_keptFirst m_keptSecond m_pa m_pb m_pNorm m_cubed m_isOpen m_signs m_often m_la0 m_lb0 R (f_X11_signAt_61 N k) ih m_ra m_rb m_boxWide m_boxHigh m_boxStep v9 v11 v13 _ _ _ X (lv_sub hl [0, 1, 2, 3] rfl) hf
set_option maxHeartbeats 4000000 in
set_option maxRecDepth 100000 in
theorem c_X11_signAt (l : Launch) (D : va_G) (T : KT) (h : Nat → Nat) (N : Nat) (v1 v3 v5 v7 : Int64) (m_taped m_states : Int32) (m_ra m_rb : Int64) (m_threes m_primes m_ones m_unit : Int32) (m_allParts m_allNorms m_allClasses : Int64) (m_odd : Int32) (m_boxWide m_boxHigh m_boxStep : Int64) (m_partingMany : Int32) (m_qa m_qb m_la m_lb m_sa m_sb m_ta m_tb : Int64) (m_listed m_tells m_wanted m_found : Int32) (m_bits : Int64) (m_power2 m_rings m_ringA m_ringB m_seedNow : Int32) (m_tape m_has m_keptHas m_first m_second m_keptFirst m_keptSecond m_pa m_pb m_pNorm m_cubed m_isOpen m_signs m_often m_la0 m_lb0 : Nat → Int32) (x : Int32 × Int64 × Int64 × Int64 × Int64 × Int64) (hf : f_X11_signAt N v1 v3 v5 v7 m_boxWide m_boxHigh m_boxStep = some x) : kx_MI l yX11_signAt cX11_signAt 14 (some .int) 5 138 D T [.ref (h 0), .long v1, .long v3, .long v5, .long v7] (wM T h m_taped m_states m_ra m_rb m_threes m_primes m_ones m_unit m_allParts m_allNorms m_allClasses m_odd m_boxWide m_boxHigh m_boxStep m_partingMany m_qa m_qb m_la m_lb m_sa m_sb m_ta m_tb m_listed m_tells m_wanted m_found m_bits m_power2 m_rings m_ringA m_ringB m_seedNow m_tape m_has m_keptHas m_first m_second m_keptFirst m_keptSecond m_pa m_pb m_pNorm m_cubed m_isOpen m_signs m_often m_la0 m_lb0) (wM T h m_taped m_states x.2.1 x.2.2.1 m_threes m_primes m_ones m_unit m_allParts m_allNorms m_allClasses m_odd x.2.2.2.1 x.2.2.2.2.1 x.2.2.2.2.2 m_partingMany m_qa m_qb m_la m_lb m_sa m_sb m_ta m_tb m_listed m_tells m_wanted m_found m_bits m_power2 m_rings m_ringA m_ringB m_seedNow m_tape m_has m_keptHas m_first m_second m_keptFirst m_keptSecond m_pa m_pb m_pNorm m_cubed m_isOpen m_signs m_often m_la0 m_lb0) x.1 := by
  refine kx_ofMI RX11 rfl (plainFor_of_name (x := yX11_signAt) kpn_X11) rfl ?_
  intro E A H ls _ C X R hl
  have hl : lv_has ls 14 [(0, .ref (h 0)), (1, .long v1), (3, .long v3), (5, .long v5), (7, .long v7)] := hl
  rw [f_X11_signAt] at hf
  refine x_aload_n 1 C dX11_signAt_0 hl 0 rfl rfl ?_
  refine x_lload 3 C dX11_signAt_1 hl 3 rfl rfl ?_
  refine x_lload 5 C dX11_signAt_3 hl 4 rfl rfl ?_
  refine x_lload_n 6 C dX11_signAt_5 hl 1 rfl rfl ?_
  refine x_lload_n 7 C dX11_signAt_6 hl 2 rfl rfl ?_
  obtain ⟨y7, hy7, hf⟩ := kx_bind hf
  refine x_callVi0 10 C dX11_signAt_7 X hl kl_X11_198 (c_X11_divides E.2.1 D T h v5 v7 v1 v3 m_taped m_states m_ra m_rb m_threes m_primes m_ones m_unit m_allParts m_allNorms m_allClasses m_odd m_boxWide m_boxHigh m_boxStep m_partingMany m_qa m_qb m_la m_lb m_sa m_sb m_ta m_tb m_listed m_tells m_wanted m_found m_bits m_power2 m_rings m_ringA m_ringB m_seedNow m_tape m_has m_keptHas m_first m_second m_keptFirst m_keptSecond m_pa m_pb m_pNorm m_cubed m_isOpen m_signs m_often m_la0 m_lb0 y7 hy7) rfl rfl [] rfl rfl rfl rfl rfl rfl (fun H locs X => ?_)
  refine x_if_eq 15 13 C dX11_signAt_10 rfl rfl hf (fun hf => ?_) (fun hf => ?_)
  · refine x_aload_n 16 C dX11_signAt_15 hl 0 rfl rfl ?_
    refine x_lload 18 C dX11_signAt_16 hl 3 rfl rfl ?_
    refine x_lload 20 C dX11_signAt_18 hl 4 rfl rfl ?_
    obtain ⟨y20, hy20, hf⟩ := kx_bind hf
    refine x_callVv0 23 C dX11_signAt_20 X hl kl_X11_273 (c_X11_laysBox E.2.1 D T h N v5 v7 m_taped m_states y7.2.1 y7.2.2 m_threes m_primes m_ones m_unit m_allParts m_allNorms m_allClasses m_odd m_boxWide m_boxHigh m_boxStep m_partingMany m_qa m_qb m_la m_lb m_sa m_sb m_ta m_tb m_listed m_tells m_wanted m_found m_bits m_power2 m_rings m_ringA m_ringB m_seedNow m_tape m_has m_keptHas m_first m_second m_keptFirst m_keptSecond m_pa m_pb m_pNorm m_cubed m_isOpen m_signs m_often m_la0 m_lb0 y20 hy20) rfl rfl [] rfl rfl rfl rfl rfl rfl (fun H locs X => ?_)
    refine x_aload_n 24 C dX11_signAt_23 hl 0 rfl rfl ?_
    refine x_lload_n 25 C dX11_signAt_24 hl 1 rfl rfl ?_
    refine x_lload_n 26 C dX11_signAt_25 hl 2 rfl rfl ?_
    refine x_lload 28 C dX11_signAt_26 hl 3 rfl rfl ?_
    refine x_lload 30 C dX11_signAt_28 hl 4 rfl rfl ?_
    obtain ⟨y30, hy30, hf⟩ := kx_bind hf
    refine x_callSi 33 C dX11_signAt_30 X hl kl_X11_160 (c_X11_normOf E.2.1 D T  v5 v7  y30 hy30) [.long v3, .long v1, .ref (h 0)] rfl rfl rfl rfl rfl cb_7 rfl (fun H locs X => ?_)
    refine x_iconst 34 C dX11_signAt_33 (1 : Int32) kv_iconst_1 rfl ?_
    refine x_isub 35 C dX11_signAt_34 rfl ?_
    refine x_iconst 36 C dX11_signAt_35 (3 : Int32) kv_iconst_3 rfl ?_
    refine x_idiv0 37 C dX11_signAt_36 kz_i_3 rfl ?_
    obtain ⟨y37, hy37, hf⟩ := kx_bind hf
    refine x_callVv0 40 C dX11_signAt_37 X hl kl_X11_281 (c_X11_powers E.2.1 D T h N v1 v3 ((y30 - (1 : Int32)) / (3 : Int32)) m_taped m_states y7.2.1 y7.2.2 m_threes m_primes m_ones m_unit m_allParts m_allNorms m_allClasses m_odd y20.1 y20.2.1 y20.2.2 m_partingMany m_qa m_qb m_la m_lb m_sa m_sb m_ta m_tb m_listed m_tells m_wanted m_found m_bits m_power2 m_rings m_ringA m_ringB m_seedNow m_tape m_has m_keptHas m_first m_second m_keptFirst m_keptSecond m_pa m_pb m_pNorm m_cubed m_isOpen m_signs m_often m_la0 m_lb0 y37 hy37) rfl rfl [] rfl rfl rfl rfl rfl rfl (fun H locs X => ?_)
    refine x_aload_n 41 C dX11_signAt_40 hl 0 rfl rfl ?_
    refine x_get 44 C dX11_signAt_41 X kf_X11_105 0 rfl rfl rfl ?_
    refine x_lstore 46 C dX11_signAt_44 [(9, .long y37.1), (0, .ref (h 0)), (1, .long v1), (3, .long v3), (5, .long v5), (7, .long v7)] hl rfl rfl rfl (fun ls hl => ?_)
    refine x_aload_n 47 C dX11_signAt_46 hl 1 rfl rfl ?_
    refine x_get 50 C dX11_signAt_47 X kf_X11_109 0 rfl rfl rfl ?_
    refine x_lstore 52 C dX11_signAt_50 [(11, .long y37.2), (9, .long y37.1), (0, .ref (h 0)), (1, .long v1), (3, .long v3), (5, .long v5), (7, .long v7)] hl rfl rfl rfl (fun ls hl => ?_)
    refine x_iconst 53 C dX11_signAt_52 (0 : Int32) kv_iconst_0 rfl ?_
    refine x_istore 55 C dX11_signAt_53 [(13, .int (0 : Int32)), (11, .long y37.2), (9, .long y37.1), (0, .ref (h 0)), (1, .long v1), (3, .long v3), (5, .long v5), (7, .long v7)] hl rfl rfl rfl (fun ls hl => ?_)
    refine x_aload_n 56 C dX11_signAt_55 hl 3 rfl rfl ?_
    refine x_lconst 57 C dX11_signAt_56 (1 : Int64) kv_lconst_1 rfl ?_
    refine x_lconst 58 C dX11_signAt_57 (0 : Int64) kv_lconst_0 rfl ?_
    obtain ⟨y58, hy58, hf⟩ := kx_bind hf
    refine x_callVv0 61 C dX11_signAt_58 X hl kl_X11_259 (c_X11_boxes E.2.1 D T h (1 : Int64) (0 : Int64) m_taped m_states y37.1 y37.2 m_threes m_primes m_ones m_unit m_allParts m_allNorms m_allClasses m_odd y20.1 y20.2.1 y20.2.2 m_partingMany m_qa m_qb m_la m_lb m_sa m_sb m_ta m_tb m_listed m_tells m_wanted m_found m_bits m_power2 m_rings m_ringA m_ringB m_seedNow m_tape m_has m_keptHas m_first m_second m_keptFirst m_keptSecond m_pa m_pb m_pNorm m_cubed m_isOpen m_signs m_often m_la0 m_lb0 y58 hy58) rfl rfl [] rfl rfl rfl rfl rfl rfl (fun H locs X => ?_)
    exact w_X11_signAt_61 h C N x m_taped m_states m_threes m_primes m_ones m_unit m_allParts m_allNorms m_allClasses m_odd m_partingMany m_qa m_qb m_la m_lb m_sa m_sb m_ta m_tb m_listed m_tells m_wanted m_found m_bits m_power2 m_rings m_ringA m_ringB m_seedNow m_tape m_has m_keptHas m_first m_second m_keptFirst m_keptSecond m_pa m_pb m_pNorm m_cubed m_isOpen m_signs m_often m_la0 m_lb0 R  N y58.1 y58.2 y20.1 y20.2.1 y20.2.2 y37.1 y37.2 (0 : Int32) _ _ _ X (lv_sub hl [3, 2, 1, 0] rfl) hf
  refine x_iconst 14 C dX11_signAt_13 (3 : Int32) kv_iconst_3 rfl ?_
  obtain rfl := Option.some.inj hf
  exact R _ _ _ _ X dX11_signAt_14
set_option maxHeartbeats 4000000 in
set_option maxRecDepth 100000 in
theorem c_X11_signBy (l : Launch) (D : va_G) (T : KT) (h : Nat → Nat) (N : Nat) (v1 v2 v3 : Int32) (m_taped m_states : Int32) (m_ra m_rb : Int64) (m_threes m_primes m_ones m_unit : Int32) (m_allParts m_allNorms m_allClasses : Int64) (m_odd : Int32) (m_boxWide m_boxHigh m_boxStep : Int64) (m_partingMany : Int32) (m_qa m_qb m_la m_lb m_sa m_sb m_ta m_tb : Int64) (m_listed m_tells m_wanted m_found : Int32) (m_bits : Int64) (m_power2 m_rings m_ringA m_ringB m_seedNow : Int32) (m_tape m_has m_keptHas m_first m_second m_keptFirst m_keptSecond m_pa m_pb m_pNorm m_cubed m_isOpen m_signs m_often m_la0 m_lb0 : Nat → Int32) (x : Int32 × Int64 × Int64 × Int32 × Int32 × Int32 × Int32 × Int64 × Int64 × Int64 × (Nat → Int32) × (Nat → Int32) × (Nat → Int32)) (hf : f_X11_signBy N v1 v2 v3 m_ra m_rb m_threes m_primes m_ones m_unit m_boxWide m_boxHigh m_boxStep m_has m_first m_second m_pa m_pb m_pNorm = some x) : kx_MI l yX11_signBy cX11_signBy 4 (some .int) 6 178 D T [.ref (h 0), .int v1, .int v2, .int v3] (wM T h m_taped m_states m_ra m_rb m_threes m_primes m_ones m_unit m_allParts m_allNorms m_allClasses m_odd m_boxWide m_boxHigh m_boxStep m_partingMany m_qa m_qb m_la m_lb m_sa m_sb m_ta m_tb m_listed m_tells m_wanted m_found m_bits m_power2 m_rings m_ringA m_ringB m_seedNow m_tape m_has m_keptHas m_first m_second m_keptFirst m_keptSecond m_pa m_pb m_pNorm m_cubed m_isOpen m_signs m_often m_la0 m_lb0) (wM T h m_taped m_states x.2.1 x.2.2.1 x.2.2.2.1 x.2.2.2.2.1 x.2.2.2.2.2.1 x.2.2.2.2.2.2.1 m_allParts m_allNorms m_allClasses m_odd x.2.2.2.2.2.2.2.1 x.2.2.2.2.2.2.2.2.1 x.2.2.2.2.2.2.2.2.2.1 m_partingMany m_qa m_qb m_la m_lb m_sa m_sb m_ta m_tb m_listed m_tells m_wanted m_found m_bits m_power2 m_rings m_ringA m_ringB m_seedNow m_tape m_has m_keptHas m_first m_second m_keptFirst m_keptSecond x.2.2.2.2.2.2.2.2.2.2.1 x.2.2.2.2.2.2.2.2.2.2.2.1 x.2.2.2.2.2.2.2.2.2.2.2.2 m_cubed m_isOpen m_signs m_often m_la0 m_lb0) x.1 := by
  refine kx_ofMI RX11 rfl (plainFor_of_name (x := yX11_signBy) kpn_X11) rfl ?_
  intro E A H ls _ C X R hl
  have hl : lv_has ls 4 [(0, .ref (h 0)), (1, .int v1), (2, .int v2), (3, .int v3)] := hl
  rw [f_X11_signBy] at hf
  refine x_iload_n 1 C dX11_signBy_0 hl 1 rfl rfl ?_
  obtain ⟨y1, hy1, hf⟩ := kx_bind hf
  refine x_callSi 4 C dX11_signBy_1 X hl kl_X11_85 (c_X11_isDrawer E.2.1 D T  v1  y1 hy1) [] rfl rfl rfl rfl rfl cb_7 rfl (fun H locs X => ?_)
  refine x_if_eq 18 7 C dX11_signBy_4 rfl rfl hf (fun hf => ?_) (fun hf => ?_)
  · refine x_iconst 19 C dX11_signBy_18 (-1 : Int32) kv_iconst_m1 rfl ?_
    obtain rfl := Option.some.inj hf
    exact R _ _ _ _ X dX11_signBy_19
  refine x_iload_n 8 C dX11_signBy_7 hl 2 rfl rfl ?_
  obtain ⟨y8, hy8, hf⟩ := kx_bind hf
  refine x_callSi 11 C dX11_signBy_8 X hl kl_X11_85 (c_X11_isDrawer E.2.1 D T  v2  y8 hy8) [] rfl rfl rfl rfl rfl cb_7 rfl (fun H locs X => ?_)
  refine x_if_eq 18 14 C dX11_signBy_11 rfl rfl hf (fun hf => ?_) (fun hf => ?_)
  · refine x_iconst 19 C dX11_signBy_18 (-1 : Int32) kv_iconst_m1 rfl ?_
    obtain rfl := Option.some.inj hf
    exact R _ _ _ _ X dX11_signBy_19
  refine x_iload_n 15 C dX11_signBy_14 hl 3 rfl rfl ?_
  refine x_if_ge 20 18 C dX11_signBy_15 rfl rfl hf (fun hf => ?_) (fun hf => ?_)
  · refine x_aload_n 21 C dX11_signBy_20 hl 0 rfl rfl ?_
    refine x_iload_n 22 C dX11_signBy_21 hl 1 rfl rfl ?_
    refine x_iload_n 23 C dX11_signBy_22 hl 2 rfl rfl ?_
    obtain ⟨y23, hy23, hf⟩ := kx_bind hf
    refine x_callVi0 26 C dX11_signBy_23 X hl kl_X11_269 (c_X11_hasBoth E.2.1 D T h v1 v2 m_taped m_states m_ra m_rb m_threes m_primes m_ones m_unit m_allParts m_allNorms m_allClasses m_odd m_boxWide m_boxHigh m_boxStep m_partingMany m_qa m_qb m_la m_lb m_sa m_sb m_ta m_tb m_listed m_tells m_wanted m_found m_bits m_power2 m_rings m_ringA m_ringB m_seedNow m_tape m_has m_keptHas m_first m_second m_keptFirst m_keptSecond m_pa m_pb m_pNorm m_cubed m_isOpen m_signs m_often m_la0 m_lb0 y23 hy23) rfl rfl [] rfl rfl rfl rfl rfl rfl (fun H locs X => ?_)
    refine x_if_ne 32 29 C dX11_signBy_26 rfl rfl hf (fun hf => ?_) (fun hf => ?_)
    · refine x_aload_n 33 C dX11_signBy_32 hl 0 rfl rfl ?_
      refine x_iload_n 34 C dX11_signBy_33 hl 2 rfl rfl ?_
      obtain ⟨y34, hy34, hf⟩ := kx_bind hf
      refine x_callVi0 37 C dX11_signBy_34 X hl kl_X11_353 (c_X11_hasSign E.2.1 D T h v2 m_taped m_states m_ra m_rb m_threes m_primes m_ones m_unit m_allParts m_allNorms m_allClasses m_odd m_boxWide m_boxHigh m_boxStep m_partingMany m_qa m_qb m_la m_lb m_sa m_sb m_ta m_tb m_listed m_tells m_wanted m_found m_bits m_power2 m_rings m_ringA m_ringB m_seedNow m_tape m_has m_keptHas m_first m_second m_keptFirst m_keptSecond m_pa m_pb m_pNorm m_cubed m_isOpen m_signs m_often m_la0 m_lb0 y34 hy34) rfl rfl [] rfl rfl rfl rfl rfl rfl (fun H locs X => ?_)
      refine x_if_ne 43 40 C dX11_signBy_37 rfl rfl hf (fun hf => ?_) (fun hf => ?_)
      · refine x_aload_n 44 C dX11_signBy_43 hl 0 rfl rfl ?_
        refine x_aload_n 45 C dX11_signBy_44 hl 0 rfl rfl ?_
        refine x_get 48 C dX11_signBy_45 X kf_X11_20 0 rfl rfl rfl ?_
        refine x_iload_n 49 C dX11_signBy_48 hl 2 rfl rfl ?_
        refine x_iald 50 C dX11_signBy_49 X 4 rfl hf rfl (fun hf => ?_)
        refine x_i2l 51 C dX11_signBy_50 rfl ?_
        refine x_aload_n 52 C dX11_signBy_51 hl 0 rfl rfl ?_
        refine x_get 55 C dX11_signBy_52 X kf_X11_24 0 rfl rfl rfl ?_
        refine x_iload_n 56 C dX11_signBy_55 hl 2 rfl rfl ?_
        refine x_iald 57 C dX11_signBy_56 X 5 rfl hf rfl (fun hf => ?_)
        refine x_i2l 58 C dX11_signBy_57 rfl ?_
        obtain ⟨y58, hy58, hf⟩ := kx_bind hf
        refine x_callVv0 61 C dX11_signBy_58 X hl kl_X11_222 (c_X11_writes E.2.1 D T h N ((m_first (v2).toNatClampNeg)).toInt64 ((m_second (v2).toNatClampNeg)).toInt64 m_taped m_states m_ra m_rb m_threes m_primes m_ones m_unit m_allParts m_allNorms m_allClasses m_odd m_boxWide m_boxHigh m_boxStep m_partingMany m_qa m_qb m_la m_lb m_sa m_sb m_ta m_tb m_listed m_tells m_wanted m_found m_bits m_power2 m_rings m_ringA m_ringB m_seedNow m_tape m_has m_keptHas m_first m_second m_keptFirst m_keptSecond m_pa m_pb m_pNorm m_cubed m_isOpen m_signs m_often m_la0 m_lb0 y58 hy58) rfl rfl [] rfl rfl rfl rfl rfl rfl (fun H locs X => ?_)
        refine x_iload_n 62 C dX11_signBy_61 hl 3 rfl rfl ?_
        refine x_aload_n 63 C dX11_signBy_62 hl 0 rfl rfl ?_
        refine x_get 66 C dX11_signBy_63 X kf_X11_201 0 rfl rfl rfl ?_
        refine x_icmp_ge 104 69 C dX11_signBy_66 rfl rfl hf (fun hf => ?_) (fun hf => ?_)
        · refine x_bipush 106 C dX11_signBy_104 (-4 : Int32) kv_bipush_m4 rfl ?_
          obtain rfl := Option.some.inj hf
          exact R _ _ _ _ X dX11_signBy_106
        refine x_aload_n 70 C dX11_signBy_69 hl 0 rfl rfl ?_
        refine x_aload_n 71 C dX11_signBy_70 hl 0 rfl rfl ?_
        refine x_get 74 C dX11_signBy_71 X kf_X11_20 0 rfl rfl rfl ?_
        refine x_iload_n 75 C dX11_signBy_74 hl 1 rfl rfl ?_
        refine x_iald 76 C dX11_signBy_75 X 4 rfl hf rfl (fun hf => ?_)
        refine x_i2l 77 C dX11_signBy_76 rfl ?_
        refine x_aload_n 78 C dX11_signBy_77 hl 0 rfl rfl ?_
        refine x_get 81 C dX11_signBy_78 X kf_X11_24 0 rfl rfl rfl ?_
        refine x_iload_n 82 C dX11_signBy_81 hl 1 rfl rfl ?_
        refine x_iald 83 C dX11_signBy_82 X 5 rfl hf rfl (fun hf => ?_)
        refine x_i2l 84 C dX11_signBy_83 rfl ?_
        refine x_aload_n 85 C dX11_signBy_84 hl 0 rfl rfl ?_
        refine x_get 88 C dX11_signBy_85 X kf_X11_33 0 rfl rfl rfl ?_
        refine x_iload_n 89 C dX11_signBy_88 hl 3 rfl rfl ?_
        refine x_iald 90 C dX11_signBy_89 X 8 rfl hf rfl (fun hf => ?_)
        refine x_i2l 91 C dX11_signBy_90 rfl ?_
        refine x_aload_n 92 C dX11_signBy_91 hl 0 rfl rfl ?_
        refine x_get 95 C dX11_signBy_92 X kf_X11_36 0 rfl rfl rfl ?_
        refine x_iload_n 96 C dX11_signBy_95 hl 3 rfl rfl ?_
        refine x_iald 97 C dX11_signBy_96 X 9 rfl hf rfl (fun hf => ?_)
        refine x_i2l 98 C dX11_signBy_97 rfl ?_
        obtain ⟨y98, hy98, hf⟩ := kx_bind hf
        refine x_callVi0 101 C dX11_signBy_98 X hl kl_X11_349 (c_X11_signAt E.2.1 D T h N ((m_first (v1).toNatClampNeg)).toInt64 ((m_second (v1).toNatClampNeg)).toInt64 ((y58.2.2.2.2.2.2.1 (v3).toNatClampNeg)).toInt64 ((y58.2.2.2.2.2.2.2.1 (v3).toNatClampNeg)).toInt64 m_taped m_states y58.1 y58.2.1 y58.2.2.1 y58.2.2.2.1 y58.2.2.2.2.1 y58.2.2.2.2.2.1 m_allParts m_allNorms m_allClasses m_odd m_boxWide m_boxHigh m_boxStep m_partingMany m_qa m_qb m_la m_lb m_sa m_sb m_ta m_tb m_listed m_tells m_wanted m_found m_bits m_power2 m_rings m_ringA m_ringB m_seedNow m_tape m_has m_keptHas m_first m_second m_keptFirst m_keptSecond y58.2.2.2.2.2.2.1 y58.2.2.2.2.2.2.2.1 y58.2.2.2.2.2.2.2.2 m_cubed m_isOpen m_signs m_often m_la0 m_lb0 y98 hy98) rfl rfl [] rfl rfl rfl rfl rfl rfl (fun H locs X => ?_)
        refine x_goto 106 C dX11_signBy_101 rfl ?_
        obtain rfl := Option.some.inj hf
        exact R _ _ _ _ X dX11_signBy_106
      refine x_bipush 42 C dX11_signBy_40 (-3 : Int32) kv_bipush_m3 rfl ?_
      obtain rfl := Option.some.inj hf
      exact R _ _ _ _ X dX11_signBy_42
    refine x_bipush 31 C dX11_signBy_29 (-2 : Int32) kv_bipush_m2 rfl ?_
    obtain rfl := Option.some.inj hf
    exact R _ _ _ _ X dX11_signBy_31
  refine x_iconst 19 C dX11_signBy_18 (-1 : Int32) kv_iconst_m1 rfl ?_
  obtain rfl := Option.some.inj hf
  exact R _ _ _ _ X dX11_signBy_19
set_option maxHeartbeats 4000000 in
set_option maxRecDepth 100000 in
theorem c_X10_openClasses (l : Launch) (D : va_G) (T : KT) (h : Nat → Nat) (N : Nat) (v1 v2 v3 : Int32) (m_drawers_full m_drawers_kept : Int32) (m_drawers_partA m_drawers_partB m_drawers_keptA m_drawers_keptB m_drawers_keptFull : Nat → Int32) (m_tape_size m_tape_plain m_tape_omegas m_tape_end m_tape_place m_tape_plainTold m_tape_omegasTold : Int32) (m_tape_bytes : Nat → Int32) (m_euclid_count : Int32) (m_euclid_last_a m_euclid_last_b m_euclid_lastOfFirst_a m_euclid_lastOfFirst_b m_euclid_lastOfSecond_a m_euclid_lastOfSecond_b m_euclid_next_a m_euclid_next_b m_euclid_nextOfFirst_a m_euclid_nextOfFirst_b m_euclid_nextOfSecond_a m_euclid_nextOfSecond_b m_euclid_q_a m_euclid_q_b : Int64) (m_euclid_quotientA m_euclid_quotientB : Nat → Int64) (m_modulus_step m_modulus_width m_modulus_slant m_modulus_square_a m_modulus_square_b : Int64) (m_factors_count m_factors_threes m_factors_unit : Int32) (m_factors_primeA m_factors_primeB m_factors_norms : Nat → Int64) (m_factors_euclid_count : Int32) (m_factors_euclid_last_a m_factors_euclid_last_b m_factors_euclid_lastOfFirst_a m_factors_euclid_lastOfFirst_b m_factors_euclid_lastOfSecond_a m_factors_euclid_lastOfSecond_b m_factors_euclid_next_a m_factors_euclid_next_b m_factors_euclid_nextOfFirst_a m_factors_euclid_nextOfFirst_b m_factors_euclid_nextOfSecond_a m_factors_euclid_nextOfSecond_b m_factors_euclid_q_a m_factors_euclid_q_b : Int64) (m_factors_euclid_quotientA m_factors_euclid_quotientB : Nat → Int64) (m_factors_left_a m_factors_left_b m_factors_found_a m_factors_found_b m_factors_product_a m_factors_product_b : Int64) (m_primes_count : Int32) (m_primes_primeA m_primes_primeB : Nat → Int32) (m_primes_found_a m_primes_found_b : Int64) (m_rings_foundA m_rings_foundB m_rings_all m_rings_mostOfOneRow m_letters_count : Int32) (m_letters_bytes : Nat → Int32) (m_one_a m_one_b m_two_a m_two_b m_three_a m_three_b m_four_a m_four_b m_out_a m_out_b m_spare_a m_spare_b : Int64) (m_marks : Nat → Int32) (x : Int32 × Int64 × Int64 × Int64 × Int64 × Int64 × Int64 × Int64) (hf : f_X10_openClasses N v1 v2 v3 m_drawers_full m_drawers_partA m_drawers_partB m_modulus_step m_modulus_width m_modulus_slant m_one_a m_one_b m_two_a m_two_b = some x) : kx_MI l yX10_openClasses cX10_openClasses 5 (some .int) 3 92 D T [.ref (h 0), .int v1, .int v2, .int v3] (wC T h m_drawers_full m_drawers_kept m_drawers_partA m_drawers_partB m_drawers_keptA m_drawers_keptB m_drawers_keptFull m_tape_size m_tape_plain m_tape_omegas m_tape_end m_tape_place m_tape_plainTold m_tape_omegasTold m_tape_bytes m_euclid_count m_euclid_last_a m_euclid_last_b m_euclid_lastOfFirst_a m_euclid_lastOfFirst_b m_euclid_lastOfSecond_a m_euclid_lastOfSecond_b m_euclid_next_a m_euclid_next_b m_euclid_nextOfFirst_a m_euclid_nextOfFirst_b m_euclid_nextOfSecond_a m_euclid_nextOfSecond_b m_euclid_q_a m_euclid_q_b m_euclid_quotientA m_euclid_quotientB m_modulus_step m_modulus_width m_modulus_slant m_modulus_square_a m_modulus_square_b m_factors_count m_factors_threes m_factors_unit m_factors_primeA m_factors_primeB m_factors_norms m_factors_euclid_count m_factors_euclid_last_a m_factors_euclid_last_b m_factors_euclid_lastOfFirst_a m_factors_euclid_lastOfFirst_b m_factors_euclid_lastOfSecond_a m_factors_euclid_lastOfSecond_b m_factors_euclid_next_a m_factors_euclid_next_b m_factors_euclid_nextOfFirst_a m_factors_euclid_nextOfFirst_b m_factors_euclid_nextOfSecond_a m_factors_euclid_nextOfSecond_b m_factors_euclid_q_a m_factors_euclid_q_b m_factors_euclid_quotientA m_factors_euclid_quotientB m_factors_left_a m_factors_left_b m_factors_found_a m_factors_found_b m_factors_product_a m_factors_product_b m_primes_count m_primes_primeA m_primes_primeB m_primes_found_a m_primes_found_b m_rings_foundA m_rings_foundB m_rings_all m_rings_mostOfOneRow m_letters_count m_letters_bytes m_one_a m_one_b m_two_a m_two_b m_three_a m_three_b m_four_a m_four_b m_out_a m_out_b m_spare_a m_spare_b m_marks) (wC T h m_drawers_full m_drawers_kept m_drawers_partA m_drawers_partB m_drawers_keptA m_drawers_keptB m_drawers_keptFull m_tape_size m_tape_plain m_tape_omegas m_tape_end m_tape_place m_tape_plainTold m_tape_omegasTold m_tape_bytes m_euclid_count m_euclid_last_a m_euclid_last_b m_euclid_lastOfFirst_a m_euclid_lastOfFirst_b m_euclid_lastOfSecond_a m_euclid_lastOfSecond_b m_euclid_next_a m_euclid_next_b m_euclid_nextOfFirst_a m_euclid_nextOfFirst_b m_euclid_nextOfSecond_a m_euclid_nextOfSecond_b m_euclid_q_a m_euclid_q_b m_euclid_quotientA m_euclid_quotientB x.2.1 x.2.2.1 x.2.2.2.1 m_modulus_square_a m_modulus_square_b m_factors_count m_factors_threes m_factors_unit m_factors_primeA m_factors_primeB m_factors_norms m_factors_euclid_count m_factors_euclid_last_a m_factors_euclid_last_b m_factors_euclid_lastOfFirst_a m_factors_euclid_lastOfFirst_b m_factors_euclid_lastOfSecond_a m_factors_euclid_lastOfSecond_b m_factors_euclid_next_a m_factors_euclid_next_b m_factors_euclid_nextOfFirst_a m_factors_euclid_nextOfFirst_b m_factors_euclid_nextOfSecond_a m_factors_euclid_nextOfSecond_b m_factors_euclid_q_a m_factors_euclid_q_b m_factors_euclid_quotientA m_factors_euclid_quotientB m_factors_left_a m_factors_left_b m_factors_found_a m_factors_found_b m_factors_product_a m_factors_product_b m_primes_count m_primes_primeA m_primes_primeB m_primes_found_a m_primes_found_b m_rings_foundA m_rings_foundB m_rings_all m_rings_mostOfOneRow m_letters_count m_letters_bytes x.2.2.2.2.1 x.2.2.2.2.2.1 x.2.2.2.2.2.2.1 x.2.2.2.2.2.2.2 m_three_a m_three_b m_four_a m_four_b m_out_a m_out_b m_spare_a m_spare_b m_marks) x.1 := by
  refine kx_ofMI RX10 rfl (plainFor_of_name (x := yX10_openClasses) kpn_X10) rfl ?_
  intro E A H ls _ C X R hl
  have hl : lv_has ls 5 [(0, .ref (h 0)), (1, .int v1), (2, .int v2), (3, .int v3)] := hl
  rw [f_X10_openClasses] at hf
  refine x_iload_n 1 C dX10_openClasses_0 hl 3 rfl rfl ?_
  refine x_if_lt 9 4 C dX10_openClasses_1 rfl rfl hf (fun hf => ?_) (fun hf => ?_)
  · refine x_iconst 10 C dX10_openClasses_9 (-1 : Int32) kv_iconst_m1 rfl ?_
    obtain rfl := Option.some.inj hf
    exact R _ _ _ _ X dX10_openClasses_10
  refine x_iload_n 5 C dX10_openClasses_4 hl 3 rfl rfl ?_
  refine x_iconst 6 C dX10_openClasses_5 (1 : Int32) kv_iconst_1 rfl ?_
  refine x_icmp_le 11 9 C dX10_openClasses_6 rfl rfl hf (fun hf => ?_) (fun hf => ?_)
  · refine x_aload_n 12 C dX10_openClasses_11 hl 0 rfl rfl ?_
    refine x_iload_n 13 C dX10_openClasses_12 hl 1 rfl rfl ?_
    refine x_iload_n 14 C dX10_openClasses_13 hl 2 rfl rfl ?_
    obtain ⟨y14, hy14, hf⟩ := kx_bind hf
    refine x_callVi0 17 C dX10_openClasses_14 X hl kl_X10_176 (c_X10_loadTwo E.2.1 D T h v1 v2 m_drawers_full m_drawers_kept m_drawers_partA m_drawers_partB m_drawers_keptA m_drawers_keptB m_drawers_keptFull m_tape_size m_tape_plain m_tape_omegas m_tape_end m_tape_place m_tape_plainTold m_tape_omegasTold m_tape_bytes m_euclid_count m_euclid_last_a m_euclid_last_b m_euclid_lastOfFirst_a m_euclid_lastOfFirst_b m_euclid_lastOfSecond_a m_euclid_lastOfSecond_b m_euclid_next_a m_euclid_next_b m_euclid_nextOfFirst_a m_euclid_nextOfFirst_b m_euclid_nextOfSecond_a m_euclid_nextOfSecond_b m_euclid_q_a m_euclid_q_b m_euclid_quotientA m_euclid_quotientB m_modulus_step m_modulus_width m_modulus_slant m_modulus_square_a m_modulus_square_b m_factors_count m_factors_threes m_factors_unit m_factors_primeA m_factors_primeB m_factors_norms m_factors_euclid_count m_factors_euclid_last_a m_factors_euclid_last_b m_factors_euclid_lastOfFirst_a m_factors_euclid_lastOfFirst_b m_factors_euclid_lastOfSecond_a m_factors_euclid_lastOfSecond_b m_factors_euclid_next_a m_factors_euclid_next_b m_factors_euclid_nextOfFirst_a m_factors_euclid_nextOfFirst_b m_factors_euclid_nextOfSecond_a m_factors_euclid_nextOfSecond_b m_factors_euclid_q_a m_factors_euclid_q_b m_factors_euclid_quotientA m_factors_euclid_quotientB m_factors_left_a m_factors_left_b m_factors_found_a m_factors_found_b m_factors_product_a m_factors_product_b m_primes_count m_primes_primeA m_primes_primeB m_primes_found_a m_primes_found_b m_rings_foundA m_rings_foundB m_rings_all m_rings_mostOfOneRow m_letters_count m_letters_bytes m_one_a m_one_b m_two_a m_two_b m_three_a m_three_b m_four_a m_four_b m_out_a m_out_b m_spare_a m_spare_b m_marks y14 hy14) rfl rfl [] rfl rfl rfl rfl rfl rfl (fun H locs X => ?_)
    refine x_istore 19 C dX10_openClasses_17 [(4, .int y14.1), (0, .ref (h 0)), (1, .int v1), (2, .int v2), (3, .int v3)] hl rfl rfl rfl (fun ls hl => ?_)
    refine x_iload 21 C dX10_openClasses_19 hl 0 rfl rfl ?_
    refine x_if_eq 27 24 C dX10_openClasses_21 rfl rfl hf (fun hf => ?_) (fun hf => ?_)
    · refine x_aload_n 28 C dX10_openClasses_27 hl 1 rfl rfl ?_
      refine x_get 31 C dX10_openClasses_28 X kf_X10_35 0 rfl rfl rfl ?_
      refine x_aload_n 32 C dX10_openClasses_31 hl 1 rfl rfl ?_
      refine x_get 35 C dX10_openClasses_32 X kf_X10_74 0 rfl rfl rfl ?_
      obtain ⟨y35, hy35, hf⟩ := kx_bind hf
      refine x_callVi 38 C dX10_openClasses_35 X hl kl_X10_284 (c_X4_open E.2.1 D T (h 19) (h 20) (h 46) N  m_modulus_step m_modulus_width m_modulus_slant y14.2.2.2.1 y14.2.2.2.2 y35 hy35) rfl rfl [] rfl rfl rfl rfl rfl cb_100 rfl (fun H locs X => ?_)
      refine x_if_eq 45 41 C dX10_openClasses_38 rfl rfl hf (fun hf => ?_) (fun hf => ?_)
      · refine x_bipush 47 C dX10_openClasses_45 (-3 : Int32) kv_bipush_m3 rfl ?_
        obtain rfl := Option.some.inj hf
        exact R _ _ _ _ X dX10_openClasses_47
      refine x_iconst 42 C dX10_openClasses_41 (0 : Int32) kv_iconst_0 rfl ?_
      refine x_goto 47 C dX10_openClasses_42 rfl ?_
      obtain rfl := Option.some.inj hf
      exact R _ _ _ _ X dX10_openClasses_47
    refine x_iload 26 C dX10_openClasses_24 hl 0 rfl rfl ?_
    obtain rfl := Option.some.inj hf
    exact R _ _ _ _ X dX10_openClasses_26
  refine x_iconst 10 C dX10_openClasses_9 (-1 : Int32) kv_iconst_m1 rfl ?_
  obtain rfl := Option.some.inj hf
  exact R _ _ _ _ X dX10_openClasses_10
set_option maxHeartbeats 4000000 in
set_option maxRecDepth 100000 in
theorem c_X10_residue (l : Launch) (D : va_G) (T : KT) (h : Nat → Nat) (N : Nat) (v1 v2 v3 : Int32) (m_drawers_full m_drawers_kept : Int32) (m_drawers_partA m_drawers_partB m_drawers_keptA m_drawers_keptB m_drawers_keptFull : Nat → Int32) (m_tape_size m_tape_plain m_tape_omegas m_tape_end m_tape_place m_tape_plainTold m_tape_omegasTold : Int32) (m_tape_bytes : Nat → Int32) (m_euclid_count : Int32) (m_euclid_last_a m_euclid_last_b m_euclid_lastOfFirst_a m_euclid_lastOfFirst_b m_euclid_lastOfSecond_a m_euclid_lastOfSecond_b m_euclid_next_a m_euclid_next_b m_euclid_nextOfFirst_a m_euclid_nextOfFirst_b m_euclid_nextOfSecond_a m_euclid_nextOfSecond_b m_euclid_q_a m_euclid_q_b : Int64) (m_euclid_quotientA m_euclid_quotientB : Nat → Int64) (m_modulus_step m_modulus_width m_modulus_slant m_modulus_square_a m_modulus_square_b : Int64) (m_factors_count m_factors_threes m_factors_unit : Int32) (m_factors_primeA m_factors_primeB m_factors_norms : Nat → Int64) (m_factors_euclid_count : Int32) (m_factors_euclid_last_a m_factors_euclid_last_b m_factors_euclid_lastOfFirst_a m_factors_euclid_lastOfFirst_b m_factors_euclid_lastOfSecond_a m_factors_euclid_lastOfSecond_b m_factors_euclid_next_a m_factors_euclid_next_b m_factors_euclid_nextOfFirst_a m_factors_euclid_nextOfFirst_b m_factors_euclid_nextOfSecond_a m_factors_euclid_nextOfSecond_b m_factors_euclid_q_a m_factors_euclid_q_b : Int64) (m_factors_euclid_quotientA m_factors_euclid_quotientB : Nat → Int64) (m_factors_left_a m_factors_left_b m_factors_found_a m_factors_found_b m_factors_product_a m_factors_product_b : Int64) (m_primes_count : Int32) (m_primes_primeA m_primes_primeB : Nat → Int32) (m_primes_found_a m_primes_found_b : Int64) (m_rings_foundA m_rings_foundB m_rings_all m_rings_mostOfOneRow m_letters_count : Int32) (m_letters_bytes : Nat → Int32) (m_one_a m_one_b m_two_a m_two_b m_three_a m_three_b m_four_a m_four_b m_out_a m_out_b m_spare_a m_spare_b : Int64) (m_marks : Nat → Int32) (x : Int32 × Int64 × Int64 × Int64 × Int64 × Int64 × Int64 × Int64) (hf : f_X10_residue N v1 v2 v3 m_drawers_full m_drawers_partA m_drawers_partB m_modulus_step m_modulus_width m_modulus_slant m_one_a m_one_b m_two_a m_two_b = some x) : kx_MI l yX10_residue cX10_residue 5 (some .int) 4 116 D T [.ref (h 0), .int v1, .int v2, .int v3] (wC T h m_drawers_full m_drawers_kept m_drawers_partA m_drawers_partB m_drawers_keptA m_drawers_keptB m_drawers_keptFull m_tape_size m_tape_plain m_tape_omegas m_tape_end m_tape_place m_tape_plainTold m_tape_omegasTold m_tape_bytes m_euclid_count m_euclid_last_a m_euclid_last_b m_euclid_lastOfFirst_a m_euclid_lastOfFirst_b m_euclid_lastOfSecond_a m_euclid_lastOfSecond_b m_euclid_next_a m_euclid_next_b m_euclid_nextOfFirst_a m_euclid_nextOfFirst_b m_euclid_nextOfSecond_a m_euclid_nextOfSecond_b m_euclid_q_a m_euclid_q_b m_euclid_quotientA m_euclid_quotientB m_modulus_step m_modulus_width m_modulus_slant m_modulus_square_a m_modulus_square_b m_factors_count m_factors_threes m_factors_unit m_factors_primeA m_factors_primeB m_factors_norms m_factors_euclid_count m_factors_euclid_last_a m_factors_euclid_last_b m_factors_euclid_lastOfFirst_a m_factors_euclid_lastOfFirst_b m_factors_euclid_lastOfSecond_a m_factors_euclid_lastOfSecond_b m_factors_euclid_next_a m_factors_euclid_next_b m_factors_euclid_nextOfFirst_a m_factors_euclid_nextOfFirst_b m_factors_euclid_nextOfSecond_a m_factors_euclid_nextOfSecond_b m_factors_euclid_q_a m_factors_euclid_q_b m_factors_euclid_quotientA m_factors_euclid_quotientB m_factors_left_a m_factors_left_b m_factors_found_a m_factors_found_b m_factors_product_a m_factors_product_b m_primes_count m_primes_primeA m_primes_primeB m_primes_found_a m_primes_found_b m_rings_foundA m_rings_foundB m_rings_all m_rings_mostOfOneRow m_letters_count m_letters_bytes m_one_a m_one_b m_two_a m_two_b m_three_a m_three_b m_four_a m_four_b m_out_a m_out_b m_spare_a m_spare_b m_marks) (wC T h m_drawers_full m_drawers_kept m_drawers_partA m_drawers_partB m_drawers_keptA m_drawers_keptB m_drawers_keptFull m_tape_size m_tape_plain m_tape_omegas m_tape_end m_tape_place m_tape_plainTold m_tape_omegasTold m_tape_bytes m_euclid_count m_euclid_last_a m_euclid_last_b m_euclid_lastOfFirst_a m_euclid_lastOfFirst_b m_euclid_lastOfSecond_a m_euclid_lastOfSecond_b m_euclid_next_a m_euclid_next_b m_euclid_nextOfFirst_a m_euclid_nextOfFirst_b m_euclid_nextOfSecond_a m_euclid_nextOfSecond_b m_euclid_q_a m_euclid_q_b m_euclid_quotientA m_euclid_quotientB x.2.1 x.2.2.1 x.2.2.2.1 m_modulus_square_a m_modulus_square_b m_factors_count m_factors_threes m_factors_unit m_factors_primeA m_factors_primeB m_factors_norms m_factors_euclid_count m_factors_euclid_last_a m_factors_euclid_last_b m_factors_euclid_lastOfFirst_a m_factors_euclid_lastOfFirst_b m_factors_euclid_lastOfSecond_a m_factors_euclid_lastOfSecond_b m_factors_euclid_next_a m_factors_euclid_next_b m_factors_euclid_nextOfFirst_a m_factors_euclid_nextOfFirst_b m_factors_euclid_nextOfSecond_a m_factors_euclid_nextOfSecond_b m_factors_euclid_q_a m_factors_euclid_q_b m_factors_euclid_quotientA m_factors_euclid_quotientB m_factors_left_a m_factors_left_b m_factors_found_a m_factors_found_b m_factors_product_a m_factors_product_b m_primes_count m_primes_primeA m_primes_primeB m_primes_found_a m_primes_found_b m_rings_foundA m_rings_foundB m_rings_all m_rings_mostOfOneRow m_letters_count m_letters_bytes x.2.2.2.2.1 x.2.2.2.2.2.1 x.2.2.2.2.2.2.1 x.2.2.2.2.2.2.2 m_three_a m_three_b m_four_a m_four_b m_out_a m_out_b m_spare_a m_spare_b m_marks) x.1 := by
  refine kx_ofMI RX10 rfl (plainFor_of_name (x := yX10_residue) kpn_X10) rfl ?_
  intro E A H ls _ C X R hl
  have hl : lv_has ls 5 [(0, .ref (h 0)), (1, .int v1), (2, .int v2), (3, .int v3)] := hl
  rw [f_X10_residue] at hf
  refine x_aload_n 1 C dX10_residue_0 hl 0 rfl rfl ?_
  refine x_iload_n 2 C dX10_residue_1 hl 1 rfl rfl ?_
  refine x_iload_n 3 C dX10_residue_2 hl 2 rfl rfl ?_
  refine x_iload_n 4 C dX10_residue_3 hl 3 rfl rfl ?_
  obtain ⟨y4, hy4, hf⟩ := kx_bind hf
  refine x_callVi0 7 C dX10_residue_4 X hl kl_X10_266 (c_X10_openClasses E.2.1 D T h N v1 v2 v3 m_drawers_full m_drawers_kept m_drawers_partA m_drawers_partB m_drawers_keptA m_drawers_keptB m_drawers_keptFull m_tape_size m_tape_plain m_tape_omegas m_tape_end m_tape_place m_tape_plainTold m_tape_omegasTold m_tape_bytes m_euclid_count m_euclid_last_a m_euclid_last_b m_euclid_lastOfFirst_a m_euclid_lastOfFirst_b m_euclid_lastOfSecond_a m_euclid_lastOfSecond_b m_euclid_next_a m_euclid_next_b m_euclid_nextOfFirst_a m_euclid_nextOfFirst_b m_euclid_nextOfSecond_a m_euclid_nextOfSecond_b m_euclid_q_a m_euclid_q_b m_euclid_quotientA m_euclid_quotientB m_modulus_step m_modulus_width m_modulus_slant m_modulus_square_a m_modulus_square_b m_factors_count m_factors_threes m_factors_unit m_factors_primeA m_factors_primeB m_factors_norms m_factors_euclid_count m_factors_euclid_last_a m_factors_euclid_last_b m_factors_euclid_lastOfFirst_a m_factors_euclid_lastOfFirst_b m_factors_euclid_lastOfSecond_a m_factors_euclid_lastOfSecond_b m_factors_euclid_next_a m_factors_euclid_next_b m_factors_euclid_nextOfFirst_a m_factors_euclid_nextOfFirst_b m_factors_euclid_nextOfSecond_a m_factors_euclid_nextOfSecond_b m_factors_euclid_q_a m_factors_euclid_q_b m_factors_euclid_quotientA m_factors_euclid_quotientB m_factors_left_a m_factors_left_b m_factors_found_a m_factors_found_b m_factors_product_a m_factors_product_b m_primes_count m_primes_primeA m_primes_primeB m_primes_found_a m_primes_found_b m_rings_foundA m_rings_foundB m_rings_all m_rings_mostOfOneRow m_letters_count m_letters_bytes m_one_a m_one_b m_two_a m_two_b m_three_a m_three_b m_four_a m_four_b m_out_a m_out_b m_spare_a m_spare_b m_marks y4 hy4) rfl rfl [] rfl rfl rfl rfl rfl rfl (fun H locs X => ?_)
  refine x_istore 9 C dX10_residue_7 [(4, .int y4.1), (0, .ref (h 0)), (1, .int v1), (2, .int v2), (3, .int v3)] hl rfl rfl rfl (fun ls hl => ?_)
  refine x_iload 11 C dX10_residue_9 hl 0 rfl rfl ?_
  refine x_if_eq 17 14 C dX10_residue_11 rfl rfl hf (fun hf => ?_) (fun hf => ?_)
  · refine x_aload_n 18 C dX10_residue_17 hl 1 rfl rfl ?_
    refine x_get 21 C dX10_residue_18 X kf_X10_35 0 rfl rfl rfl ?_
    refine x_aload_n 22 C dX10_residue_21 hl 1 rfl rfl ?_
    refine x_get 25 C dX10_residue_22 X kf_X10_70 0 rfl rfl rfl ?_
    obtain ⟨y25, hy25, hf⟩ := kx_bind hf
    refine x_callVv 28 C dX10_residue_25 X hl kl_X10_270 (c_X4_reduce E.2.1 D T (h 19) (h 20) (h 45)  y4.2.1 y4.2.2.1 y4.2.2.2.1 y4.2.2.2.2.1 y4.2.2.2.2.2.1 y25 hy25) rfl rfl [] rfl rfl rfl rfl rfl cb_98 rfl (fun H locs X => ?_)
    refine x_aload_n 29 C dX10_residue_28 hl 1 rfl rfl ?_
    refine x_get 32 C dX10_residue_29 X kf_X10_70 0 rfl rfl rfl ?_
    refine x_iload_n 33 C dX10_residue_32 hl 4 rfl rfl ?_
    obtain ⟨y33, hy33, hf⟩ := kx_bind hf
    refine x_callSi 36 C dX10_residue_33 X hl kl_X10_273 (c_X10_part E.2.1 D T (h 45) v3 y25.1 y25.2 y33 hy33) [] rfl rfl rfl rfl rfl cb_99 rfl (fun H locs X => ?_)
    obtain rfl := Option.some.inj hf
    exact R _ _ _ _ X dX10_residue_36
  refine x_iload 16 C dX10_residue_14 hl 0 rfl rfl ?_
  obtain rfl := Option.some.inj hf
  exact R _ _ _ _ X dX10_residue_16
set_option maxHeartbeats 4000000 in
set_option maxRecDepth 100000 in
theorem c_X11_areDrawers (l : Launch) (D : va_G) (T : KT)  (v0 v1 v2 : Int32)  (x : Int32) (hf : f_X11_areDrawers v0 v1 v2 = some x) : kx_MI l yX11_areDrawers cX11_areDrawers 3 (some .boolean) 2 45 D T [.int v0, .int v1, .int v2] (w4_ T  ) (w4_ T  ) x := by
  refine kx_ofMZ RX11 rfl (plainFor_of_name (x := yX11_areDrawers) kpn_X11) rfl ?_
  intro E A H ls _ C X R hl
  have hl : lv_has ls 3 [(0, .int v0), (1, .int v1), (2, .int v2)] := hl
  rw [f_X11_areDrawers] at hf
  refine x_iload_n 1 C dX11_areDrawers_0 hl 0 rfl rfl ?_
  obtain ⟨y1, hy1, hf⟩ := kx_bind hf
  refine x_callSi0 4 C dX11_areDrawers_1 X hl kl_X11_85 (c_X11_isDrawer E.2.1 D T  v0  y1 hy1) [] rfl rfl rfl rfl rfl rfl (fun H locs X => ?_)
  refine x_if_eq 28 7 C dX11_areDrawers_4 rfl rfl hf (fun hf => ?_) (fun hf => ?_)
  · refine x_iconst 29 C dX11_areDrawers_28 (0 : Int32) kv_iconst_0 rfl ?_
    obtain rfl := Option.some.inj hf
    exact R _ _ _ _ X kb_0 dX11_areDrawers_29
  refine x_iload_n 8 C dX11_areDrawers_7 hl 1 rfl rfl ?_
  obtain ⟨y8, hy8, hf⟩ := kx_bind hf
  refine x_callSi0 11 C dX11_areDrawers_8 X hl kl_X11_85 (c_X11_isDrawer E.2.1 D T  v1  y8 hy8) [] rfl rfl rfl rfl rfl rfl (fun H locs X => ?_)
  refine x_if_eq 28 14 C dX11_areDrawers_11 rfl rfl hf (fun hf => ?_) (fun hf => ?_)
  · refine x_iconst 29 C dX11_areDrawers_28 (0 : Int32) kv_iconst_0 rfl ?_
    obtain rfl := Option.some.inj hf
    exact R _ _ _ _ X kb_0 dX11_areDrawers_29
  refine x_iload_n 15 C dX11_areDrawers_14 hl 2 rfl rfl ?_
  refine x_i2l 16 C dX11_areDrawers_15 rfl ?_
  refine x_lconst 17 C dX11_areDrawers_16 (0 : Int64) kv_lconst_0 rfl ?_
  refine x_lconst 18 C dX11_areDrawers_17 (1 : Int64) kv_lconst_1 rfl ?_
  obtain ⟨y18, hy18, hf⟩ := kx_bind hf
  refine x_callSi0 21 C dX11_areDrawers_18 X hl kl_X11_77 (c_X11_in E.2.1 D T  (v2).toInt64 (0 : Int64) (1 : Int64)  y18 hy18) [] rfl rfl rfl rfl rfl rfl (fun H locs X => ?_)
  refine x_if_eq 28 24 C dX11_areDrawers_21 rfl rfl hf (fun hf => ?_) (fun hf => ?_)
  · refine x_iconst 29 C dX11_areDrawers_28 (0 : Int32) kv_iconst_0 rfl ?_
    obtain rfl := Option.some.inj hf
    exact R _ _ _ _ X kb_0 dX11_areDrawers_29
  refine x_iconst 25 C dX11_areDrawers_24 (1 : Int32) kv_iconst_1 rfl ?_
  refine x_goto 29 C dX11_areDrawers_25 rfl ?_
  obtain rfl := Option.some.inj hf
  exact R _ _ _ _ X kb_1 dX11_areDrawers_29
set_option maxHeartbeats 4000000 in
set_option maxRecDepth 100000 in
theorem c_X11_part (l : Launch) (D : va_G) (T : KT) (h : Nat → Nat) (v1 : Int32) (m_taped m_states : Int32) (m_ra m_rb : Int64) (m_threes m_primes m_ones m_unit : Int32) (m_allParts m_allNorms m_allClasses : Int64) (m_odd : Int32) (m_boxWide m_boxHigh m_boxStep : Int64) (m_partingMany : Int32) (m_qa m_qb m_la m_lb m_sa m_sb m_ta m_tb : Int64) (m_listed m_tells m_wanted m_found : Int32) (m_bits : Int64) (m_power2 m_rings m_ringA m_ringB m_seedNow : Int32) (m_tape m_has m_keptHas m_first m_second m_keptFirst m_keptSecond m_pa m_pb m_pNorm m_cubed m_isOpen m_signs m_often m_la0 m_lb0 : Nat → Int32) (x : Int32) (hf : f_X11_part v1 m_ra m_rb = some x) : kx_MI l yX11_part cX11_part 2 (some .int) 0 0 D T [.ref (h 0), .int v1] (wM T h m_taped m_states m_ra m_rb m_threes m_primes m_ones m_unit m_allParts m_allNorms m_allClasses m_odd m_boxWide m_boxHigh m_boxStep m_partingMany m_qa m_qb m_la m_lb m_sa m_sb m_ta m_tb m_listed m_tells m_wanted m_found m_bits m_power2 m_rings m_ringA m_ringB m_seedNow m_tape m_has m_keptHas m_first m_second m_keptFirst m_keptSecond m_pa m_pb m_pNorm m_cubed m_isOpen m_signs m_often m_la0 m_lb0) (wM T h m_taped m_states m_ra m_rb m_threes m_primes m_ones m_unit m_allParts m_allNorms m_allClasses m_odd m_boxWide m_boxHigh m_boxStep m_partingMany m_qa m_qb m_la m_lb m_sa m_sb m_ta m_tb m_listed m_tells m_wanted m_found m_bits m_power2 m_rings m_ringA m_ringB m_seedNow m_tape m_has m_keptHas m_first m_second m_keptFirst m_keptSecond m_pa m_pb m_pNorm m_cubed m_isOpen m_signs m_often m_la0 m_lb0) x := by
  refine kx_ofMI RX11 rfl (plainFor_of_name (x := yX11_part) kpn_X11) rfl ?_
  intro E A H ls _ C X R hl
  have hl : lv_has ls 2 [(0, .ref (h 0)), (1, .int v1)] := hl
  rw [f_X11_part] at hf
  refine x_iload_n 1 C dX11_part_0 hl 1 rfl rfl ?_
  refine x_if_ne 11 4 C dX11_part_1 rfl rfl hf (fun hf => ?_) (fun hf => ?_)
  · refine x_aload_n 12 C dX11_part_11 hl 0 rfl rfl ?_
    refine x_get 15 C dX11_part_12 X kf_X11_109 0 rfl rfl rfl ?_
    refine x_l2i 16 C dX11_part_15 rfl ?_
    obtain rfl := Option.some.inj hf
    exact R _ _ _ _ X dX11_part_16
  refine x_aload_n 5 C dX11_part_4 hl 0 rfl rfl ?_
  refine x_get 8 C dX11_part_5 X kf_X11_105 0 rfl rfl rfl ?_
  refine x_goto 15 C dX11_part_8 rfl ?_
  refine x_l2i 16 C dX11_part_15 rfl ?_
  obtain rfl := Option.some.inj hf
  exact R _ _ _ _ X dX11_part_16
set_option maxHeartbeats 4000000 in
set_option maxRecDepth 100000 in
theorem c_X11_residue (l : Launch) (D : va_G) (T : KT) (h : Nat → Nat) (N : Nat) (v1 v2 v3 : Int32) (m_taped m_states : Int32) (m_ra m_rb : Int64) (m_threes m_primes m_ones m_unit : Int32) (m_allParts m_allNorms m_allClasses : Int64) (m_odd : Int32) (m_boxWide m_boxHigh m_boxStep : Int64) (m_partingMany : Int32) (m_qa m_qb m_la m_lb m_sa m_sb m_ta m_tb : Int64) (m_listed m_tells m_wanted m_found : Int32) (m_bits : Int64) (m_power2 m_rings m_ringA m_ringB m_seedNow : Int32) (m_tape m_has m_keptHas m_first m_second m_keptFirst m_keptSecond m_pa m_pb m_pNorm m_cubed m_isOpen m_signs m_often m_la0 m_lb0 : Nat → Int32) (x : Int32 × Int64 × Int64 × Int64 × Int64 × Int64) (hf : f_X11_residue N v1 v2 v3 m_ra m_rb m_boxWide m_boxHigh m_boxStep m_has m_first m_second = some x) : kx_MI l yX11_residue cX11_residue 4 (some .int) 3 88 D T [.ref (h 0), .int v1, .int v2, .int v3] (wM T h m_taped m_states m_ra m_rb m_threes m_primes m_ones m_unit m_allParts m_allNorms m_allClasses m_odd m_boxWide m_boxHigh m_boxStep m_partingMany m_qa m_qb m_la m_lb m_sa m_sb m_ta m_tb m_listed m_tells m_wanted m_found m_bits m_power2 m_rings m_ringA m_ringB m_seedNow m_tape m_has m_keptHas m_first m_second m_keptFirst m_keptSecond m_pa m_pb m_pNorm m_cubed m_isOpen m_signs m_often m_la0 m_lb0) (wM T h m_taped m_states x.2.1 x.2.2.1 m_threes m_primes m_ones m_unit m_allParts m_allNorms m_allClasses m_odd x.2.2.2.1 x.2.2.2.2.1 x.2.2.2.2.2 m_partingMany m_qa m_qb m_la m_lb m_sa m_sb m_ta m_tb m_listed m_tells m_wanted m_found m_bits m_power2 m_rings m_ringA m_ringB m_seedNow m_tape m_has m_keptHas m_first m_second m_keptFirst m_keptSecond m_pa m_pb m_pNorm m_cubed m_isOpen m_signs m_often m_la0 m_lb0) x.1 := by
  refine kx_ofMI RX11 rfl (plainFor_of_name (x := yX11_residue) kpn_X11) rfl ?_
  intro E A H ls _ C X R hl
  have hl : lv_has ls 4 [(0, .ref (h 0)), (1, .int v1), (2, .int v2), (3, .int v3)] := hl
  rw [f_X11_residue] at hf
  refine x_iload_n 1 C dX11_residue_0 hl 1 rfl rfl ?_
  refine x_iload_n 2 C dX11_residue_1 hl 2 rfl rfl ?_
  refine x_iload_n 3 C dX11_residue_2 hl 3 rfl rfl ?_
  obtain ⟨y3, hy3, hf⟩ := kx_bind hf
  refine x_callSi 6 C dX11_residue_3 X hl kl_X11_265 (c_X11_areDrawers E.2.1 D T  v1 v2 v3  y3 hy3) [] rfl rfl rfl rfl rfl cb_7 rfl (fun H locs X => ?_)
  refine x_if_ne 11 9 C dX11_residue_6 rfl rfl hf (fun hf => ?_) (fun hf => ?_)
  · refine x_aload_n 12 C dX11_residue_11 hl 0 rfl rfl ?_
    refine x_iload_n 13 C dX11_residue_12 hl 1 rfl rfl ?_
    refine x_iload_n 14 C dX11_residue_13 hl 2 rfl rfl ?_
    obtain ⟨y14, hy14, hf⟩ := kx_bind hf
    refine x_callVi0 17 C dX11_residue_14 X hl kl_X11_269 (c_X11_hasBoth E.2.1 D T h v1 v2 m_taped m_states m_ra m_rb m_threes m_primes m_ones m_unit m_allParts m_allNorms m_allClasses m_odd m_boxWide m_boxHigh m_boxStep m_partingMany m_qa m_qb m_la m_lb m_sa m_sb m_ta m_tb m_listed m_tells m_wanted m_found m_bits m_power2 m_rings m_ringA m_ringB m_seedNow m_tape m_has m_keptHas m_first m_second m_keptFirst m_keptSecond m_pa m_pb m_pNorm m_cubed m_isOpen m_signs m_often m_la0 m_lb0 y14 hy14) rfl rfl [] rfl rfl rfl rfl rfl rfl (fun H locs X => ?_)
    refine x_if_ne 23 20 C dX11_residue_17 rfl rfl hf (fun hf => ?_) (fun hf => ?_)
    · refine x_aload_n 24 C dX11_residue_23 hl 0 rfl rfl ?_
      refine x_iload_n 25 C dX11_residue_24 hl 2 rfl rfl ?_
      obtain ⟨y25, hy25, hf⟩ := kx_bind hf
      refine x_callVi0 28 C dX11_residue_25 X hl kl_X11_178 (c_X11_isNothing E.2.1 D T h v2 m_taped m_states m_ra m_rb m_threes m_primes m_ones m_unit m_allParts m_allNorms m_allClasses m_odd m_boxWide m_boxHigh m_boxStep m_partingMany m_qa m_qb m_la m_lb m_sa m_sb m_ta m_tb m_listed m_tells m_wanted m_found m_bits m_power2 m_rings m_ringA m_ringB m_seedNow m_tape m_has m_keptHas m_first m_second m_keptFirst m_keptSecond m_pa m_pb m_pNorm m_cubed m_isOpen m_signs m_often m_la0 m_lb0 y25 hy25) rfl rfl [] rfl rfl rfl rfl rfl rfl (fun H locs X => ?_)
      refine x_if_eq 34 31 C dX11_residue_28 rfl rfl hf (fun hf => ?_) (fun hf => ?_)
      · refine x_aload_n 35 C dX11_residue_34 hl 0 rfl rfl ?_
        refine x_aload_n 36 C dX11_residue_35 hl 0 rfl rfl ?_
        refine x_get 39 C dX11_residue_36 X kf_X11_20 0 rfl rfl rfl ?_
        refine x_iload_n 40 C dX11_residue_39 hl 2 rfl rfl ?_
        refine x_iald 41 C dX11_residue_40 X 4 rfl hf rfl (fun hf => ?_)
        refine x_i2l 42 C dX11_residue_41 rfl ?_
        refine x_aload_n 43 C dX11_residue_42 hl 0 rfl rfl ?_
        refine x_get 46 C dX11_residue_43 X kf_X11_24 0 rfl rfl rfl ?_
        refine x_iload_n 47 C dX11_residue_46 hl 2 rfl rfl ?_
        refine x_iald 48 C dX11_residue_47 X 5 rfl hf rfl (fun hf => ?_)
        refine x_i2l 49 C dX11_residue_48 rfl ?_
        obtain ⟨y49, hy49, hf⟩ := kx_bind hf
        refine x_callVv0 52 C dX11_residue_49 X hl kl_X11_273 (c_X11_laysBox E.2.1 D T h N ((m_first (v2).toNatClampNeg)).toInt64 ((m_second (v2).toNatClampNeg)).toInt64 m_taped m_states m_ra m_rb m_threes m_primes m_ones m_unit m_allParts m_allNorms m_allClasses m_odd m_boxWide m_boxHigh m_boxStep m_partingMany m_qa m_qb m_la m_lb m_sa m_sb m_ta m_tb m_listed m_tells m_wanted m_found m_bits m_power2 m_rings m_ringA m_ringB m_seedNow m_tape m_has m_keptHas m_first m_second m_keptFirst m_keptSecond m_pa m_pb m_pNorm m_cubed m_isOpen m_signs m_often m_la0 m_lb0 y49 hy49) rfl rfl [] rfl rfl rfl rfl rfl rfl (fun H locs X => ?_)
        refine x_aload_n 53 C dX11_residue_52 hl 0 rfl rfl ?_
        refine x_aload_n 54 C dX11_residue_53 hl 0 rfl rfl ?_
        refine x_get 57 C dX11_residue_54 X kf_X11_20 0 rfl rfl rfl ?_
        refine x_iload_n 58 C dX11_residue_57 hl 1 rfl rfl ?_
        refine x_iald 59 C dX11_residue_58 X 4 rfl hf rfl (fun hf => ?_)
        refine x_i2l 60 C dX11_residue_59 rfl ?_
        refine x_aload_n 61 C dX11_residue_60 hl 0 rfl rfl ?_
        refine x_get 64 C dX11_residue_61 X kf_X11_24 0 rfl rfl rfl ?_
        refine x_iload_n 65 C dX11_residue_64 hl 1 rfl rfl ?_
        refine x_iald 66 C dX11_residue_65 X 5 rfl hf rfl (fun hf => ?_)
        refine x_i2l 67 C dX11_residue_66 rfl ?_
        obtain ⟨y67, hy67, hf⟩ := kx_bind hf
        refine x_callVv0 70 C dX11_residue_67 X hl kl_X11_259 (c_X11_boxes E.2.1 D T h ((m_first (v1).toNatClampNeg)).toInt64 ((m_second (v1).toNatClampNeg)).toInt64 m_taped m_states m_ra m_rb m_threes m_primes m_ones m_unit m_allParts m_allNorms m_allClasses m_odd y49.1 y49.2.1 y49.2.2 m_partingMany m_qa m_qb m_la m_lb m_sa m_sb m_ta m_tb m_listed m_tells m_wanted m_found m_bits m_power2 m_rings m_ringA m_ringB m_seedNow m_tape m_has m_keptHas m_first m_second m_keptFirst m_keptSecond m_pa m_pb m_pNorm m_cubed m_isOpen m_signs m_often m_la0 m_lb0 y67 hy67) rfl rfl [] rfl rfl rfl rfl rfl rfl (fun H locs X => ?_)
        refine x_aload_n 71 C dX11_residue_70 hl 0 rfl rfl ?_
        refine x_iload_n 72 C dX11_residue_71 hl 3 rfl rfl ?_
        obtain ⟨y72, hy72, hf⟩ := kx_bind hf
        refine x_callVi0 75 C dX11_residue_72 X hl kl_X11_276 (c_X11_part E.2.1 D T h v3 m_taped m_states y67.1 y67.2 m_threes m_primes m_ones m_unit m_allParts m_allNorms m_allClasses m_odd y49.1 y49.2.1 y49.2.2 m_partingMany m_qa m_qb m_la m_lb m_sa m_sb m_ta m_tb m_listed m_tells m_wanted m_found m_bits m_power2 m_rings m_ringA m_ringB m_seedNow m_tape m_has m_keptHas m_first m_second m_keptFirst m_keptSecond m_pa m_pb m_pNorm m_cubed m_isOpen m_signs m_often m_la0 m_lb0 y72 hy72) rfl rfl [] rfl rfl rfl rfl rfl rfl (fun H locs X => ?_)
        obtain rfl := Option.some.inj hf
        exact R _ _ _ _ X dX11_residue_75
      refine x_bipush 33 C dX11_residue_31 (-3 : Int32) kv_bipush_m3 rfl ?_
      obtain rfl := Option.some.inj hf
      exact R _ _ _ _ X dX11_residue_33
    refine x_bipush 22 C dX11_residue_20 (-2 : Int32) kv_bipush_m2 rfl ?_
    obtain rfl := Option.some.inj hf
    exact R _ _ _ _ X dX11_residue_22
  refine x_iconst 10 C dX11_residue_9 (-1 : Int32) kv_iconst_m1 rfl ?_
  obtain rfl := Option.some.inj hf
  exact R _ _ _ _ X dX11_residue_10
set_option maxHeartbeats 4000000 in
set_option maxRecDepth 100000 in
theorem c_X10_power (l : Launch) (D : va_G) (T : KT) (h : Nat → Nat) (N : Nat) (v1 v2 v3 v4 : Int32) (m_drawers_full m_drawers_kept : Int32) (m_drawers_partA m_drawers_partB m_drawers_keptA m_drawers_keptB m_drawers_keptFull : Nat → Int32) (m_tape_size m_tape_plain m_tape_omegas m_tape_end m_tape_place m_tape_plainTold m_tape_omegasTold : Int32) (m_tape_bytes : Nat → Int32) (m_euclid_count : Int32) (m_euclid_last_a m_euclid_last_b m_euclid_lastOfFirst_a m_euclid_lastOfFirst_b m_euclid_lastOfSecond_a m_euclid_lastOfSecond_b m_euclid_next_a m_euclid_next_b m_euclid_nextOfFirst_a m_euclid_nextOfFirst_b m_euclid_nextOfSecond_a m_euclid_nextOfSecond_b m_euclid_q_a m_euclid_q_b : Int64) (m_euclid_quotientA m_euclid_quotientB : Nat → Int64) (m_modulus_step m_modulus_width m_modulus_slant m_modulus_square_a m_modulus_square_b : Int64) (m_factors_count m_factors_threes m_factors_unit : Int32) (m_factors_primeA m_factors_primeB m_factors_norms : Nat → Int64) (m_factors_euclid_count : Int32) (m_factors_euclid_last_a m_factors_euclid_last_b m_factors_euclid_lastOfFirst_a m_factors_euclid_lastOfFirst_b m_factors_euclid_lastOfSecond_a m_factors_euclid_lastOfSecond_b m_factors_euclid_next_a m_factors_euclid_next_b m_factors_euclid_nextOfFirst_a m_factors_euclid_nextOfFirst_b m_factors_euclid_nextOfSecond_a m_factors_euclid_nextOfSecond_b m_factors_euclid_q_a m_factors_euclid_q_b : Int64) (m_factors_euclid_quotientA m_factors_euclid_quotientB : Nat → Int64) (m_factors_left_a m_factors_left_b m_factors_found_a m_factors_found_b m_factors_product_a m_factors_product_b : Int64) (m_primes_count : Int32) (m_primes_primeA m_primes_primeB : Nat → Int32) (m_primes_found_a m_primes_found_b : Int64) (m_rings_foundA m_rings_foundB m_rings_all m_rings_mostOfOneRow m_letters_count : Int32) (m_letters_bytes : Nat → Int32) (m_one_a m_one_b m_two_a m_two_b m_three_a m_three_b m_four_a m_four_b m_out_a m_out_b m_spare_a m_spare_b : Int64) (m_marks : Nat → Int32) (x : Int32 × Int64 × Int64 × Int64 × Int64 × Int64 × Int64 × Int64 × Int64 × Int64 × Int64 × Int64) (hf : f_X10_power N v1 v2 v3 v4 m_drawers_full m_drawers_partA m_drawers_partB m_modulus_step m_modulus_width m_modulus_slant m_modulus_square_a m_modulus_square_b m_one_a m_one_b m_two_a m_two_b m_out_a m_out_b = some x) : kx_MI l yX10_power cX10_power 6 (some .int) 4 116 D T [.ref (h 0), .int v1, .int v2, .int v3, .int v4] (wC T h m_drawers_full m_drawers_kept m_drawers_partA m_drawers_partB m_drawers_keptA m_drawers_keptB m_drawers_keptFull m_tape_size m_tape_plain m_tape_omegas m_tape_end m_tape_place m_tape_plainTold m_tape_omegasTold m_tape_bytes m_euclid_count m_euclid_last_a m_euclid_last_b m_euclid_lastOfFirst_a m_euclid_lastOfFirst_b m_euclid_lastOfSecond_a m_euclid_lastOfSecond_b m_euclid_next_a m_euclid_next_b m_euclid_nextOfFirst_a m_euclid_nextOfFirst_b m_euclid_nextOfSecond_a m_euclid_nextOfSecond_b m_euclid_q_a m_euclid_q_b m_euclid_quotientA m_euclid_quotientB m_modulus_step m_modulus_width m_modulus_slant m_modulus_square_a m_modulus_square_b m_factors_count m_factors_threes m_factors_unit m_factors_primeA m_factors_primeB m_factors_norms m_factors_euclid_count m_factors_euclid_last_a m_factors_euclid_last_b m_factors_euclid_lastOfFirst_a m_factors_euclid_lastOfFirst_b m_factors_euclid_lastOfSecond_a m_factors_euclid_lastOfSecond_b m_factors_euclid_next_a m_factors_euclid_next_b m_factors_euclid_nextOfFirst_a m_factors_euclid_nextOfFirst_b m_factors_euclid_nextOfSecond_a m_factors_euclid_nextOfSecond_b m_factors_euclid_q_a m_factors_euclid_q_b m_factors_euclid_quotientA m_factors_euclid_quotientB m_factors_left_a m_factors_left_b m_factors_found_a m_factors_found_b m_factors_product_a m_factors_product_b m_primes_count m_primes_primeA m_primes_primeB m_primes_found_a m_primes_found_b m_rings_foundA m_rings_foundB m_rings_all m_rings_mostOfOneRow m_letters_count m_letters_bytes m_one_a m_one_b m_two_a m_two_b m_three_a m_three_b m_four_a m_four_b m_out_a m_out_b m_spare_a m_spare_b m_marks) (wC T h m_drawers_full m_drawers_kept m_drawers_partA m_drawers_partB m_drawers_keptA m_drawers_keptB m_drawers_keptFull m_tape_size m_tape_plain m_tape_omegas m_tape_end m_tape_place m_tape_plainTold m_tape_omegasTold m_tape_bytes m_euclid_count m_euclid_last_a m_euclid_last_b m_euclid_lastOfFirst_a m_euclid_lastOfFirst_b m_euclid_lastOfSecond_a m_euclid_lastOfSecond_b m_euclid_next_a m_euclid_next_b m_euclid_nextOfFirst_a m_euclid_nextOfFirst_b m_euclid_nextOfSecond_a m_euclid_nextOfSecond_b m_euclid_q_a m_euclid_q_b m_euclid_quotientA m_euclid_quotientB x.2.1 x.2.2.1 x.2.2.2.1 x.2.2.2.2.1 x.2.2.2.2.2.1 m_factors_count m_factors_threes m_factors_unit m_factors_primeA m_factors_primeB m_factors_norms m_factors_euclid_count m_factors_euclid_last_a m_factors_euclid_last_b m_factors_euclid_lastOfFirst_a m_factors_euclid_lastOfFirst_b m_factors_euclid_lastOfSecond_a m_factors_euclid_lastOfSecond_b m_factors_euclid_next_a m_factors_euclid_next_b m_factors_euclid_nextOfFirst_a m_factors_euclid_nextOfFirst_b m_factors_euclid_nextOfSecond_a m_factors_euclid_nextOfSecond_b m_factors_euclid_q_a m_factors_euclid_q_b m_factors_euclid_quotientA m_factors_euclid_quotientB m_factors_left_a m_factors_left_b m_factors_found_a m_factors_found_b m_factors_product_a m_factors_product_b m_primes_count m_primes_primeA m_primes_primeB m_primes_found_a m_primes_found_b m_rings_foundA m_rings_foundB m_rings_all m_rings_mostOfOneRow m_letters_count m_letters_bytes x.2.2.2.2.2.2.1 x.2.2.2.2.2.2.2.1 x.2.2.2.2.2.2.2.2.1 x.2.2.2.2.2.2.2.2.2.1 m_three_a m_three_b m_four_a m_four_b x.2.2.2.2.2.2.2.2.2.2.1 x.2.2.2.2.2.2.2.2.2.2.2 m_spare_a m_spare_b m_marks) x.1 := by
  refine kx_ofMI RX10 rfl (plainFor_of_name (x := yX10_power) kpn_X10) rfl ?_
  intro E A H ls _ C X R hl
  have hl : lv_has ls 6 [(0, .ref (h 0)), (1, .int v1), (2, .int v2), (3, .int v3), (4, .int v4)] := hl
  rw [f_X10_power] at hf
  refine x_iload_n 1 C dX10_power_0 hl 2 rfl rfl ?_
  refine x_if_lt 11 4 C dX10_power_1 rfl rfl hf (fun hf => ?_) (fun hf => ?_)
  · refine x_iconst 12 C dX10_power_11 (-1 : Int32) kv_iconst_m1 rfl ?_
    obtain rfl := Option.some.inj hf
    exact R _ _ _ _ X dX10_power_12
  refine x_iload_n 5 C dX10_power_4 hl 2 rfl rfl ?_
  refine x_ldc_w 8 C dX10_power_5 (1000000000 : Int32) kc_X10_275 rfl ?_
  refine x_icmp_le 13 11 C dX10_power_8 rfl rfl hf (fun hf => ?_) (fun hf => ?_)
  · refine x_aload_n 14 C dX10_power_13 hl 0 rfl rfl ?_
    refine x_iload_n 15 C dX10_power_14 hl 1 rfl rfl ?_
    refine x_iload_n 16 C dX10_power_15 hl 3 rfl rfl ?_
    refine x_iload 18 C dX10_power_16 hl 4 rfl rfl ?_
    obtain ⟨y18, hy18, hf⟩ := kx_bind hf
    refine x_callVi0 21 C dX10_power_18 X hl kl_X10_266 (c_X10_openClasses E.2.1 D T h N v1 v3 v4 m_drawers_full m_drawers_kept m_drawers_partA m_drawers_partB m_drawers_keptA m_drawers_keptB m_drawers_keptFull m_tape_size m_tape_plain m_tape_omegas m_tape_end m_tape_place m_tape_plainTold m_tape_omegasTold m_tape_bytes m_euclid_count m_euclid_last_a m_euclid_last_b m_euclid_lastOfFirst_a m_euclid_lastOfFirst_b m_euclid_lastOfSecond_a m_euclid_lastOfSecond_b m_euclid_next_a m_euclid_next_b m_euclid_nextOfFirst_a m_euclid_nextOfFirst_b m_euclid_nextOfSecond_a m_euclid_nextOfSecond_b m_euclid_q_a m_euclid_q_b m_euclid_quotientA m_euclid_quotientB m_modulus_step m_modulus_width m_modulus_slant m_modulus_square_a m_modulus_square_b m_factors_count m_factors_threes m_factors_unit m_factors_primeA m_factors_primeB m_factors_norms m_factors_euclid_count m_factors_euclid_last_a m_factors_euclid_last_b m_factors_euclid_lastOfFirst_a m_factors_euclid_lastOfFirst_b m_factors_euclid_lastOfSecond_a m_factors_euclid_lastOfSecond_b m_factors_euclid_next_a m_factors_euclid_next_b m_factors_euclid_nextOfFirst_a m_factors_euclid_nextOfFirst_b m_factors_euclid_nextOfSecond_a m_factors_euclid_nextOfSecond_b m_factors_euclid_q_a m_factors_euclid_q_b m_factors_euclid_quotientA m_factors_euclid_quotientB m_factors_left_a m_factors_left_b m_factors_found_a m_factors_found_b m_factors_product_a m_factors_product_b m_primes_count m_primes_primeA m_primes_primeB m_primes_found_a m_primes_found_b m_rings_foundA m_rings_foundB m_rings_all m_rings_mostOfOneRow m_letters_count m_letters_bytes m_one_a m_one_b m_two_a m_two_b m_three_a m_three_b m_four_a m_four_b m_out_a m_out_b m_spare_a m_spare_b m_marks y18 hy18) rfl rfl [] rfl rfl rfl rfl rfl rfl (fun H locs X => ?_)
    refine x_istore 23 C dX10_power_21 [(5, .int y18.1), (0, .ref (h 0)), (1, .int v1), (2, .int v2), (3, .int v3), (4, .int v4)] hl rfl rfl rfl (fun ls hl => ?_)
    refine x_iload 25 C dX10_power_23 hl 0 rfl rfl ?_
    refine x_if_eq 31 28 C dX10_power_25 rfl rfl hf (fun hf => ?_) (fun hf => ?_)
    · refine x_aload_n 32 C dX10_power_31 hl 1 rfl rfl ?_
      refine x_get 35 C dX10_power_32 X kf_X10_35 0 rfl rfl rfl ?_
      refine x_aload_n 36 C dX10_power_35 hl 1 rfl rfl ?_
      refine x_get 39 C dX10_power_36 X kf_X10_70 0 rfl rfl rfl ?_
      refine x_iload_n 40 C dX10_power_39 hl 3 rfl rfl ?_
      refine x_i2l 41 C dX10_power_40 rfl ?_
      refine x_aload_n 42 C dX10_power_41 hl 1 rfl rfl ?_
      refine x_get 45 C dX10_power_42 X kf_X10_83 0 rfl rfl rfl ?_
      obtain ⟨y45, hy45, hf⟩ := kx_bind hf
      refine x_callVv 48 C dX10_power_45 X hl kl_X10_276 (c_X4_raise E.2.1 D T (h 19) (h 20) (h 45) (h 49) N (v2).toInt64 y18.2.1 y18.2.2.1 y18.2.2.2.1 m_modulus_square_a m_modulus_square_b y18.2.2.2.2.1 y18.2.2.2.2.2.1 m_out_a m_out_b y45 hy45) rfl rfl [] rfl rfl rfl rfl rfl cb_86 rfl (fun H locs X => ?_)
      refine x_aload_n 49 C dX10_power_48 hl 1 rfl rfl ?_
      refine x_get 52 C dX10_power_49 X kf_X10_83 0 rfl rfl rfl ?_
      refine x_iload 54 C dX10_power_52 hl 5 rfl rfl ?_
      obtain ⟨y54, hy54, hf⟩ := kx_bind hf
      refine x_callSi 57 C dX10_power_54 X hl kl_X10_273 (c_X10_part E.2.1 D T (h 49) v4 y45.2.2.1 y45.2.2.2 y54 hy54) [] rfl rfl rfl rfl rfl cb_73 rfl (fun H locs X => ?_)
      obtain rfl := Option.some.inj hf
      exact R _ _ _ _ X dX10_power_57
    refine x_iload 30 C dX10_power_28 hl 0 rfl rfl ?_
    obtain rfl := Option.some.inj hf
    exact R _ _ _ _ X dX10_power_30
  refine x_iconst 12 C dX10_power_11 (-1 : Int32) kv_iconst_m1 rfl ?_
  obtain rfl := Option.some.inj hf
  exact R _ _ _ _ X dX10_power_12
set_option maxHeartbeats 4000000 in
set_option maxRecDepth 100000 in
theorem c_X11_power (l : Launch) (D : va_G) (T : KT) (h : Nat → Nat) (N : Nat) (v1 v2 v3 v4 : Int32) (m_taped m_states : Int32) (m_ra m_rb : Int64) (m_threes m_primes m_ones m_unit : Int32) (m_allParts m_allNorms m_allClasses : Int64) (m_odd : Int32) (m_boxWide m_boxHigh m_boxStep : Int64) (m_partingMany : Int32) (m_qa m_qb m_la m_lb m_sa m_sb m_ta m_tb : Int64) (m_listed m_tells m_wanted m_found : Int32) (m_bits : Int64) (m_power2 m_rings m_ringA m_ringB m_seedNow : Int32) (m_tape m_has m_keptHas m_first m_second m_keptFirst m_keptSecond m_pa m_pb m_pNorm m_cubed m_isOpen m_signs m_often m_la0 m_lb0 : Nat → Int32) (x : Int32 × Int64 × Int64 × Int64 × Int64 × Int64) (hf : f_X11_power N v1 v2 v3 v4 m_ra m_rb m_boxWide m_boxHigh m_boxStep m_has m_first m_second = some x) : kx_MI l yX11_power cX11_power 5 (some .int) 5 138 D T [.ref (h 0), .int v1, .int v2, .int v3, .int v4] (wM T h m_taped m_states m_ra m_rb m_threes m_primes m_ones m_unit m_allParts m_allNorms m_allClasses m_odd m_boxWide m_boxHigh m_boxStep m_partingMany m_qa m_qb m_la m_lb m_sa m_sb m_ta m_tb m_listed m_tells m_wanted m_found m_bits m_power2 m_rings m_ringA m_ringB m_seedNow m_tape m_has m_keptHas m_first m_second m_keptFirst m_keptSecond m_pa m_pb m_pNorm m_cubed m_isOpen m_signs m_often m_la0 m_lb0) (wM T h m_taped m_states x.2.1 x.2.2.1 m_threes m_primes m_ones m_unit m_allParts m_allNorms m_allClasses m_odd x.2.2.2.1 x.2.2.2.2.1 x.2.2.2.2.2 m_partingMany m_qa m_qb m_la m_lb m_sa m_sb m_ta m_tb m_listed m_tells m_wanted m_found m_bits m_power2 m_rings m_ringA m_ringB m_seedNow m_tape m_has m_keptHas m_first m_second m_keptFirst m_keptSecond m_pa m_pb m_pNorm m_cubed m_isOpen m_signs m_often m_la0 m_lb0) x.1 := by
  refine kx_ofMI RX11 rfl (plainFor_of_name (x := yX11_power) kpn_X11) rfl ?_
  intro E A H ls _ C X R hl
  have hl : lv_has ls 5 [(0, .ref (h 0)), (1, .int v1), (2, .int v2), (3, .int v3), (4, .int v4)] := hl
  rw [f_X11_power] at hf
  refine x_iload_n 1 C dX11_power_0 hl 1 rfl rfl ?_
  refine x_iload_n 2 C dX11_power_1 hl 3 rfl rfl ?_
  refine x_iload 4 C dX11_power_2 hl 4 rfl rfl ?_
  obtain ⟨y4, hy4, hf⟩ := kx_bind hf
  refine x_callSi 7 C dX11_power_4 X hl kl_X11_265 (c_X11_areDrawers E.2.1 D T  v1 v3 v4  y4 hy4) [] rfl rfl rfl rfl rfl cb_7 rfl (fun H locs X => ?_)
  refine x_if_eq 22 10 C dX11_power_7 rfl rfl hf (fun hf => ?_) (fun hf => ?_)
  · refine x_iconst 23 C dX11_power_22 (-1 : Int32) kv_iconst_m1 rfl ?_
    obtain rfl := Option.some.inj hf
    exact R _ _ _ _ X dX11_power_23
  refine x_iload_n 11 C dX11_power_10 hl 2 rfl rfl ?_
  refine x_i2l 12 C dX11_power_11 rfl ?_
  refine x_lconst 13 C dX11_power_12 (0 : Int64) kv_lconst_0 rfl ?_
  refine x_ldc2_w 16 C dX11_power_13 (1000000000 : Int64) kc_X11_279 rfl ?_
  obtain ⟨y16, hy16, hf⟩ := kx_bind hf
  refine x_callSi 19 C dX11_power_16 X hl kl_X11_77 (c_X11_in E.2.1 D T  (v2).toInt64 (0 : Int64) (1000000000 : Int64)  y16 hy16) [] rfl rfl rfl rfl rfl cb_7 rfl (fun H locs X => ?_)
  refine x_if_ne 24 22 C dX11_power_19 rfl rfl hf (fun hf => ?_) (fun hf => ?_)
  · refine x_aload_n 25 C dX11_power_24 hl 0 rfl rfl ?_
    refine x_iload_n 26 C dX11_power_25 hl 1 rfl rfl ?_
    refine x_iload_n 27 C dX11_power_26 hl 3 rfl rfl ?_
    obtain ⟨y27, hy27, hf⟩ := kx_bind hf
    refine x_callVi0 30 C dX11_power_27 X hl kl_X11_269 (c_X11_hasBoth E.2.1 D T h v1 v3 m_taped m_states m_ra m_rb m_threes m_primes m_ones m_unit m_allParts m_allNorms m_allClasses m_odd m_boxWide m_boxHigh m_boxStep m_partingMany m_qa m_qb m_la m_lb m_sa m_sb m_ta m_tb m_listed m_tells m_wanted m_found m_bits m_power2 m_rings m_ringA m_ringB m_seedNow m_tape m_has m_keptHas m_first m_second m_keptFirst m_keptSecond m_pa m_pb m_pNorm m_cubed m_isOpen m_signs m_often m_la0 m_lb0 y27 hy27) rfl rfl [] rfl rfl rfl rfl rfl rfl (fun H locs X => ?_)
    refine x_if_ne 36 33 C dX11_power_30 rfl rfl hf (fun hf => ?_) (fun hf => ?_)
    · refine x_aload_n 37 C dX11_power_36 hl 0 rfl rfl ?_
      refine x_iload_n 38 C dX11_power_37 hl 3 rfl rfl ?_
      obtain ⟨y38, hy38, hf⟩ := kx_bind hf
      refine x_callVi0 41 C dX11_power_38 X hl kl_X11_178 (c_X11_isNothing E.2.1 D T h v3 m_taped m_states m_ra m_rb m_threes m_primes m_ones m_unit m_allParts m_allNorms m_allClasses m_odd m_boxWide m_boxHigh m_boxStep m_partingMany m_qa m_qb m_la m_lb m_sa m_sb m_ta m_tb m_listed m_tells m_wanted m_found m_bits m_power2 m_rings m_ringA m_ringB m_seedNow m_tape m_has m_keptHas m_first m_second m_keptFirst m_keptSecond m_pa m_pb m_pNorm m_cubed m_isOpen m_signs m_often m_la0 m_lb0 y38 hy38) rfl rfl [] rfl rfl rfl rfl rfl rfl (fun H locs X => ?_)
      refine x_if_eq 47 44 C dX11_power_41 rfl rfl hf (fun hf => ?_) (fun hf => ?_)
      · refine x_aload_n 48 C dX11_power_47 hl 0 rfl rfl ?_
        refine x_aload_n 49 C dX11_power_48 hl 0 rfl rfl ?_
        refine x_get 52 C dX11_power_49 X kf_X11_20 0 rfl rfl rfl ?_
        refine x_iload_n 53 C dX11_power_52 hl 3 rfl rfl ?_
        refine x_iald 54 C dX11_power_53 X 4 rfl hf rfl (fun hf => ?_)
        refine x_i2l 55 C dX11_power_54 rfl ?_
        refine x_aload_n 56 C dX11_power_55 hl 0 rfl rfl ?_
        refine x_get 59 C dX11_power_56 X kf_X11_24 0 rfl rfl rfl ?_
        refine x_iload_n 60 C dX11_power_59 hl 3 rfl rfl ?_
        refine x_iald 61 C dX11_power_60 X 5 rfl hf rfl (fun hf => ?_)
        refine x_i2l 62 C dX11_power_61 rfl ?_
        obtain ⟨y62, hy62, hf⟩ := kx_bind hf
        refine x_callVv0 65 C dX11_power_62 X hl kl_X11_273 (c_X11_laysBox E.2.1 D T h N ((m_first (v3).toNatClampNeg)).toInt64 ((m_second (v3).toNatClampNeg)).toInt64 m_taped m_states m_ra m_rb m_threes m_primes m_ones m_unit m_allParts m_allNorms m_allClasses m_odd m_boxWide m_boxHigh m_boxStep m_partingMany m_qa m_qb m_la m_lb m_sa m_sb m_ta m_tb m_listed m_tells m_wanted m_found m_bits m_power2 m_rings m_ringA m_ringB m_seedNow m_tape m_has m_keptHas m_first m_second m_keptFirst m_keptSecond m_pa m_pb m_pNorm m_cubed m_isOpen m_signs m_often m_la0 m_lb0 y62 hy62) rfl rfl [] rfl rfl rfl rfl rfl rfl (fun H locs X => ?_)
        refine x_aload_n 66 C dX11_power_65 hl 0 rfl rfl ?_
        refine x_aload_n 67 C dX11_power_66 hl 0 rfl rfl ?_
        refine x_get 70 C dX11_power_67 X kf_X11_20 0 rfl rfl rfl ?_
        refine x_iload_n 71 C dX11_power_70 hl 1 rfl rfl ?_
        refine x_iald 72 C dX11_power_71 X 4 rfl hf rfl (fun hf => ?_)
        refine x_i2l 73 C dX11_power_72 rfl ?_
        refine x_aload_n 74 C dX11_power_73 hl 0 rfl rfl ?_
        refine x_get 77 C dX11_power_74 X kf_X11_24 0 rfl rfl rfl ?_
        refine x_iload_n 78 C dX11_power_77 hl 1 rfl rfl ?_
        refine x_iald 79 C dX11_power_78 X 5 rfl hf rfl (fun hf => ?_)
        refine x_i2l 80 C dX11_power_79 rfl ?_
        refine x_iload_n 81 C dX11_power_80 hl 2 rfl rfl ?_
        obtain ⟨y81, hy81, hf⟩ := kx_bind hf
        refine x_callVv0 84 C dX11_power_81 X hl kl_X11_281 (c_X11_powers E.2.1 D T h N ((m_first (v1).toNatClampNeg)).toInt64 ((m_second (v1).toNatClampNeg)).toInt64 v2 m_taped m_states m_ra m_rb m_threes m_primes m_ones m_unit m_allParts m_allNorms m_allClasses m_odd y62.1 y62.2.1 y62.2.2 m_partingMany m_qa m_qb m_la m_lb m_sa m_sb m_ta m_tb m_listed m_tells m_wanted m_found m_bits m_power2 m_rings m_ringA m_ringB m_seedNow m_tape m_has m_keptHas m_first m_second m_keptFirst m_keptSecond m_pa m_pb m_pNorm m_cubed m_isOpen m_signs m_often m_la0 m_lb0 y81 hy81) rfl rfl [] rfl rfl rfl rfl rfl rfl (fun H locs X => ?_)
        refine x_aload_n 85 C dX11_power_84 hl 0 rfl rfl ?_
        refine x_iload 87 C dX11_power_85 hl 4 rfl rfl ?_
        obtain ⟨y87, hy87, hf⟩ := kx_bind hf
        refine x_callVi0 90 C dX11_power_87 X hl kl_X11_276 (c_X11_part E.2.1 D T h v4 m_taped m_states y81.1 y81.2 m_threes m_primes m_ones m_unit m_allParts m_allNorms m_allClasses m_odd y62.1 y62.2.1 y62.2.2 m_partingMany m_qa m_qb m_la m_lb m_sa m_sb m_ta m_tb m_listed m_tells m_wanted m_found m_bits m_power2 m_rings m_ringA m_ringB m_seedNow m_tape m_has m_keptHas m_first m_second m_keptFirst m_keptSecond m_pa m_pb m_pNorm m_cubed m_isOpen m_signs m_often m_la0 m_lb0 y87 hy87) rfl rfl [] rfl rfl rfl rfl rfl rfl (fun H locs X => ?_)
        obtain rfl := Option.some.inj hf
        exact R _ _ _ _ X dX11_power_90
      refine x_bipush 46 C dX11_power_44 (-3 : Int32) kv_bipush_m3 rfl ?_
      obtain rfl := Option.some.inj hf
      exact R _ _ _ _ X dX11_power_46
    refine x_bipush 35 C dX11_power_33 (-2 : Int32) kv_bipush_m2 rfl ?_
    obtain rfl := Option.some.inj hf
    exact R _ _ _ _ X dX11_power_35
  refine x_iconst 23 C dX11_power_22 (-1 : Int32) kv_iconst_m1 rfl ?_
  obtain rfl := Option.some.inj hf
  exact R _ _ _ _ X dX11_power_23
set_option maxHeartbeats 4000000 in
set_option maxRecDepth 100000 in
theorem c_X1_invert (l : Launch) (D : va_G) (T : KT) (h0 h1 h2 h3 h4 h5 h6 h7 h8 h9 h10 h11 h12 : Nat) (N : Nat)  (m_count : Int32) (m_last_a m_last_b m_lastOfFirst_a m_lastOfFirst_b m_lastOfSecond_a m_lastOfSecond_b m_next_a m_next_b m_nextOfFirst_a m_nextOfFirst_b m_nextOfSecond_a m_nextOfSecond_b m_q_a m_q_b : Int64) (m_quotientA m_quotientB : Nat → Int64) (m_p1_a m_p1_b m_p2_a m_p2_b m_p3_a m_p3_b : Int64) (x : Int32 × Int32 × Int64 × Int64 × Int64 × Int64 × Int64 × Int64 × Int64 × Int64 × Int64 × Int64 × Int64 × Int64 × Int64 × Int64 × (Nat → Int64) × (Nat → Int64) × Int64 × Int64) (hf : f_X1_invert N m_q_a m_q_b m_quotientA m_quotientB m_p1_a m_p1_b m_p2_a m_p2_b m_p3_a m_p3_b = some x) : kx_MI l yX1_invert cX1_invert 4 (some .boolean) 4 98 D T [.ref h0, .ref h10, .ref h11, .ref h12] (w39_X1 T h0 h1 h2 h3 h4 h5 h6 h7 h8 h9 h10 h11 h12 m_count m_last_a m_last_b m_lastOfFirst_a m_lastOfFirst_b m_lastOfSecond_a m_lastOfSecond_b m_next_a m_next_b m_nextOfFirst_a m_nextOfFirst_b m_nextOfSecond_a m_nextOfSecond_b m_q_a m_q_b m_quotientA m_quotientB m_p1_a m_p1_b m_p2_a m_p2_b m_p3_a m_p3_b) (w39_X1 T h0 h1 h2 h3 h4 h5 h6 h7 h8 h9 h10 h11 h12 x.2.1 x.2.2.1 x.2.2.2.1 x.2.2.2.2.1 x.2.2.2.2.2.1 x.2.2.2.2.2.2.1 x.2.2.2.2.2.2.2.1 x.2.2.2.2.2.2.2.2.1 x.2.2.2.2.2.2.2.2.2.1 x.2.2.2.2.2.2.2.2.2.2.1 x.2.2.2.2.2.2.2.2.2.2.2.1 x.2.2.2.2.2.2.2.2.2.2.2.2.1 x.2.2.2.2.2.2.2.2.2.2.2.2.2.1 x.2.2.2.2.2.2.2.2.2.2.2.2.2.2.1 x.2.2.2.2.2.2.2.2.2.2.2.2.2.2.2.1 x.2.2.2.2.2.2.2.2.2.2.2.2.2.2.2.2.1 x.2.2.2.2.2.2.2.2.2.2.2.2.2.2.2.2.2.1 m_p1_a m_p1_b m_p2_a m_p2_b x.2.2.2.2.2.2.2.2.2.2.2.2.2.2.2.2.2.2.1 x.2.2.2.2.2.2.2.2.2.2.2.2.2.2.2.2.2.2.2) x.1 := by
  refine kx_ofMZ RX1 rfl (plainFor_of_name (x := yX1_invert) kpn_X1) rfl ?_
  intro E A H ls _ C X R hl
  have hl : lv_has ls 4 [(0, .ref h0), (1, .ref h10), (2, .ref h11), (3, .ref h12)] := hl
  rw [f_X1_invert] at hf
  refine x_aload_n 1 C dX1_invert_0 hl 0 rfl rfl ?_
  refine x_aload_n 2 C dX1_invert_1 hl 1 rfl rfl ?_
  refine x_aload_n 3 C dX1_invert_2 hl 2 rfl rfl ?_
  obtain ⟨y3, hy3, hf⟩ := kx_bind hf
  refine x_callVi 6 C dX1_invert_3 X hl kl_X1_77 (c_X1_arePrimeToEachOther E.2.1 D T h0 h1 h2 h3 h4 h5 h6 h7 h8 h9 h10 h11 N  m_count m_last_a m_last_b m_lastOfFirst_a m_lastOfFirst_b m_lastOfSecond_a m_lastOfSecond_b m_next_a m_next_b m_nextOfFirst_a m_nextOfFirst_b m_nextOfSecond_a m_nextOfSecond_b m_q_a m_q_b m_quotientA m_quotientB m_p1_a m_p1_b m_p2_a m_p2_b y3 hy3) rfl rfl [] rfl rfl rfl rfl rfl cb_103 rfl (fun H locs X => ?_)
  refine x_if_ne 11 9 C dX1_invert_6 rfl rfl hf (fun hf => ?_) (fun hf => ?_)
  · refine x_aload_n 12 C dX1_invert_11 hl 3 rfl rfl ?_
    refine x_aload_n 13 C dX1_invert_12 hl 0 rfl rfl ?_
    refine x_get 16 C dX1_invert_13 X kf_X1_10 0 rfl rfl rfl ?_
    obtain ⟨y16, hy16, hf⟩ := kx_bind hf
    refine x_callVv 19 C dX1_invert_16 X hl kl_X1_41 (c_X5_copy E.2.1 D T h12 h1  m_p3_a m_p3_b y3.2.2.1 y3.2.2.2.1 y16 hy16) rfl rfl [] rfl rfl rfl rfl rfl cb_104 rfl (fun H locs X => ?_)
    refine x_aload_n 20 C dX1_invert_19 hl 3 rfl rfl ?_
    obtain ⟨y20, hy20, hf⟩ := kx_bind hf
    refine x_callVv 23 C dX1_invert_20 X hl kl_X1_81 (c_X5_turn E.2.1 D T h12  y16.1 y16.2 y20 hy20) rfl rfl [] rfl rfl rfl rfl rfl cb_105 rfl (fun H locs X => ?_)
    refine x_aload_n 24 C dX1_invert_23 hl 3 rfl rfl ?_
    refine x_aload_n 25 C dX1_invert_24 hl 0 rfl rfl ?_
    refine x_get 28 C dX1_invert_25 X kf_X1_16 0 rfl rfl rfl ?_
    obtain ⟨y28, hy28, hf⟩ := kx_bind hf
    refine x_callVv 31 C dX1_invert_28 X hl kl_X1_84 (c_X5_multiply E.2.1 D T h12 h2  y20.1 y20.2 y3.2.2.2.2.1 y3.2.2.2.2.2.1 y28 hy28) rfl rfl [] rfl rfl rfl rfl rfl cb_106 rfl (fun H locs X => ?_)
    refine x_iconst 32 C dX1_invert_31 (1 : Int32) kv_iconst_1 rfl ?_
    obtain rfl := Option.some.inj hf
    exact R _ _ _ _ X kb_1 dX1_invert_32
  refine x_iconst 10 C dX1_invert_9 (0 : Int32) kv_iconst_0 rfl ?_
  obtain rfl := Option.some.inj hf
  exact R _ _ _ _ X kb_0 dX1_invert_10
set_option maxHeartbeats 4000000 in
set_option maxRecDepth 100000 in
theorem c_X10_inverse (l : Launch) (D : va_G) (T : KT) (h : Nat → Nat) (N : Nat) (v1 v2 v3 : Int32) (m_drawers_full m_drawers_kept : Int32) (m_drawers_partA m_drawers_partB m_drawers_keptA m_drawers_keptB m_drawers_keptFull : Nat → Int32) (m_tape_size m_tape_plain m_tape_omegas m_tape_end m_tape_place m_tape_plainTold m_tape_omegasTold : Int32) (m_tape_bytes : Nat → Int32) (m_euclid_count : Int32) (m_euclid_last_a m_euclid_last_b m_euclid_lastOfFirst_a m_euclid_lastOfFirst_b m_euclid_lastOfSecond_a m_euclid_lastOfSecond_b m_euclid_next_a m_euclid_next_b m_euclid_nextOfFirst_a m_euclid_nextOfFirst_b m_euclid_nextOfSecond_a m_euclid_nextOfSecond_b m_euclid_q_a m_euclid_q_b : Int64) (m_euclid_quotientA m_euclid_quotientB : Nat → Int64) (m_modulus_step m_modulus_width m_modulus_slant m_modulus_square_a m_modulus_square_b : Int64) (m_factors_count m_factors_threes m_factors_unit : Int32) (m_factors_primeA m_factors_primeB m_factors_norms : Nat → Int64) (m_factors_euclid_count : Int32) (m_factors_euclid_last_a m_factors_euclid_last_b m_factors_euclid_lastOfFirst_a m_factors_euclid_lastOfFirst_b m_factors_euclid_lastOfSecond_a m_factors_euclid_lastOfSecond_b m_factors_euclid_next_a m_factors_euclid_next_b m_factors_euclid_nextOfFirst_a m_factors_euclid_nextOfFirst_b m_factors_euclid_nextOfSecond_a m_factors_euclid_nextOfSecond_b m_factors_euclid_q_a m_factors_euclid_q_b : Int64) (m_factors_euclid_quotientA m_factors_euclid_quotientB : Nat → Int64) (m_factors_left_a m_factors_left_b m_factors_found_a m_factors_found_b m_factors_product_a m_factors_product_b : Int64) (m_primes_count : Int32) (m_primes_primeA m_primes_primeB : Nat → Int32) (m_primes_found_a m_primes_found_b : Int64) (m_rings_foundA m_rings_foundB m_rings_all m_rings_mostOfOneRow m_letters_count : Int32) (m_letters_bytes : Nat → Int32) (m_one_a m_one_b m_two_a m_two_b m_three_a m_three_b m_four_a m_four_b m_out_a m_out_b m_spare_a m_spare_b : Int64) (m_marks : Nat → Int32) (x : Int32 × Int32 × Int64 × Int64 × Int64 × Int64 × Int64 × Int64 × Int64 × Int64 × Int64 × Int64 × Int64 × Int64 × Int64 × Int64 × (Nat → Int64) × (Nat → Int64) × Int64 × Int64 × Int64 × Int64 × Int64 × Int64 × Int64 × Int64 × Int64) (hf : f_X10_inverse N v1 v2 v3 m_drawers_full m_drawers_partA m_drawers_partB m_euclid_count m_euclid_last_a m_euclid_last_b m_euclid_lastOfFirst_a m_euclid_lastOfFirst_b m_euclid_lastOfSecond_a m_euclid_lastOfSecond_b m_euclid_next_a m_euclid_next_b m_euclid_nextOfFirst_a m_euclid_nextOfFirst_b m_euclid_nextOfSecond_a m_euclid_nextOfSecond_b m_euclid_q_a m_euclid_q_b m_euclid_quotientA m_euclid_quotientB m_modulus_step m_modulus_width m_modulus_slant m_one_a m_one_b m_two_a m_two_b m_out_a m_out_b = some x) : kx_MI l yX10_inverse cX10_inverse 5 (some .int) 5 121 D T [.ref (h 0), .int v1, .int v2, .int v3] (wC T h m_drawers_full m_drawers_kept m_drawers_partA m_drawers_partB m_drawers_keptA m_drawers_keptB m_drawers_keptFull m_tape_size m_tape_plain m_tape_omegas m_tape_end m_tape_place m_tape_plainTold m_tape_omegasTold m_tape_bytes m_euclid_count m_euclid_last_a m_euclid_last_b m_euclid_lastOfFirst_a m_euclid_lastOfFirst_b m_euclid_lastOfSecond_a m_euclid_lastOfSecond_b m_euclid_next_a m_euclid_next_b m_euclid_nextOfFirst_a m_euclid_nextOfFirst_b m_euclid_nextOfSecond_a m_euclid_nextOfSecond_b m_euclid_q_a m_euclid_q_b m_euclid_quotientA m_euclid_quotientB m_modulus_step m_modulus_width m_modulus_slant m_modulus_square_a m_modulus_square_b m_factors_count m_factors_threes m_factors_unit m_factors_primeA m_factors_primeB m_factors_norms m_factors_euclid_count m_factors_euclid_last_a m_factors_euclid_last_b m_factors_euclid_lastOfFirst_a m_factors_euclid_lastOfFirst_b m_factors_euclid_lastOfSecond_a m_factors_euclid_lastOfSecond_b m_factors_euclid_next_a m_factors_euclid_next_b m_factors_euclid_nextOfFirst_a m_factors_euclid_nextOfFirst_b m_factors_euclid_nextOfSecond_a m_factors_euclid_nextOfSecond_b m_factors_euclid_q_a m_factors_euclid_q_b m_factors_euclid_quotientA m_factors_euclid_quotientB m_factors_left_a m_factors_left_b m_factors_found_a m_factors_found_b m_factors_product_a m_factors_product_b m_primes_count m_primes_primeA m_primes_primeB m_primes_found_a m_primes_found_b m_rings_foundA m_rings_foundB m_rings_all m_rings_mostOfOneRow m_letters_count m_letters_bytes m_one_a m_one_b m_two_a m_two_b m_three_a m_three_b m_four_a m_four_b m_out_a m_out_b m_spare_a m_spare_b m_marks) (wC T h m_drawers_full m_drawers_kept m_drawers_partA m_drawers_partB m_drawers_keptA m_drawers_keptB m_drawers_keptFull m_tape_size m_tape_plain m_tape_omegas m_tape_end m_tape_place m_tape_plainTold m_tape_omegasTold m_tape_bytes x.2.1 x.2.2.1 x.2.2.2.1 x.2.2.2.2.1 x.2.2.2.2.2.1 x.2.2.2.2.2.2.1 x.2.2.2.2.2.2.2.1 x.2.2.2.2.2.2.2.2.1 x.2.2.2.2.2.2.2.2.2.1 x.2.2.2.2.2.2.2.2.2.2.1 x.2.2.2.2.2.2.2.2.2.2.2.1 x.2.2.2.2.2.2.2.2.2.2.2.2.1 x.2.2.2.2.2.2.2.2.2.2.2.2.2.1 x.2.2.2.2.2.2.2.2.2.2.2.2.2.2.1 x.2.2.2.2.2.2.2.2.2.2.2.2.2.2.2.1 x.2.2.2.2.2.2.2.2.2.2.2.2.2.2.2.2.1 x.2.2.2.2.2.2.2.2.2.2.2.2.2.2.2.2.2.1 x.2.2.2.2.2.2.2.2.2.2.2.2.2.2.2.2.2.2.1 x.2.2.2.2.2.2.2.2.2.2.2.2.2.2.2.2.2.2.2.1 x.2.2.2.2.2.2.2.2.2.2.2.2.2.2.2.2.2.2.2.2.1 m_modulus_square_a m_modulus_square_b m_factors_count m_factors_threes m_factors_unit m_factors_primeA m_factors_primeB m_factors_norms m_factors_euclid_count m_factors_euclid_last_a m_factors_euclid_last_b m_factors_euclid_lastOfFirst_a m_factors_euclid_lastOfFirst_b m_factors_euclid_lastOfSecond_a m_factors_euclid_lastOfSecond_b m_factors_euclid_next_a m_factors_euclid_next_b m_factors_euclid_nextOfFirst_a m_factors_euclid_nextOfFirst_b m_factors_euclid_nextOfSecond_a m_factors_euclid_nextOfSecond_b m_factors_euclid_q_a m_factors_euclid_q_b m_factors_euclid_quotientA m_factors_euclid_quotientB m_factors_left_a m_factors_left_b m_factors_found_a m_factors_found_b m_factors_product_a m_factors_product_b m_primes_count m_primes_primeA m_primes_primeB m_primes_found_a m_primes_found_b m_rings_foundA m_rings_foundB m_rings_all m_rings_mostOfOneRow m_letters_count m_letters_bytes x.2.2.2.2.2.2.2.2.2.2.2.2.2.2.2.2.2.2.2.2.2.1 x.2.2.2.2.2.2.2.2.2.2.2.2.2.2.2.2.2.2.2.2.2.2.1 x.2.2.2.2.2.2.2.2.2.2.2.2.2.2.2.2.2.2.2.2.2.2.2.1 x.2.2.2.2.2.2.2.2.2.2.2.2.2.2.2.2.2.2.2.2.2.2.2.2.1 m_three_a m_three_b m_four_a m_four_b x.2.2.2.2.2.2.2.2.2.2.2.2.2.2.2.2.2.2.2.2.2.2.2.2.2.1 x.2.2.2.2.2.2.2.2.2.2.2.2.2.2.2.2.2.2.2.2.2.2.2.2.2.2 m_spare_a m_spare_b m_marks) x.1 := by
  refine kx_ofMI RX10 rfl (plainFor_of_name (x := yX10_inverse) kpn_X10) rfl ?_
  intro E A H ls _ C X R hl
  have hl : lv_has ls 5 [(0, .ref (h 0)), (1, .int v1), (2, .int v2), (3, .int v3)] := hl
  rw [f_X10_inverse] at hf
  refine x_aload_n 1 C dX10_inverse_0 hl 0 rfl rfl ?_
  refine x_iload_n 2 C dX10_inverse_1 hl 1 rfl rfl ?_
  refine x_iload_n 3 C dX10_inverse_2 hl 2 rfl rfl ?_
  refine x_iload_n 4 C dX10_inverse_3 hl 3 rfl rfl ?_
  obtain ⟨y4, hy4, hf⟩ := kx_bind hf
  refine x_callVi0 7 C dX10_inverse_4 X hl kl_X10_266 (c_X10_openClasses E.2.1 D T h N v1 v2 v3 m_drawers_full m_drawers_kept m_drawers_partA m_drawers_partB m_drawers_keptA m_drawers_keptB m_drawers_keptFull m_tape_size m_tape_plain m_tape_omegas m_tape_end m_tape_place m_tape_plainTold m_tape_omegasTold m_tape_bytes m_euclid_count m_euclid_last_a m_euclid_last_b m_euclid_lastOfFirst_a m_euclid_lastOfFirst_b m_euclid_lastOfSecond_a m_euclid_lastOfSecond_b m_euclid_next_a m_euclid_next_b m_euclid_nextOfFirst_a m_euclid_nextOfFirst_b m_euclid_nextOfSecond_a m_euclid_nextOfSecond_b m_euclid_q_a m_euclid_q_b m_euclid_quotientA m_euclid_quotientB m_modulus_step m_modulus_width m_modulus_slant m_modulus_square_a m_modulus_square_b m_factors_count m_factors_threes m_factors_unit m_factors_primeA m_factors_primeB m_factors_norms m_factors_euclid_count m_factors_euclid_last_a m_factors_euclid_last_b m_factors_euclid_lastOfFirst_a m_factors_euclid_lastOfFirst_b m_factors_euclid_lastOfSecond_a m_factors_euclid_lastOfSecond_b m_factors_euclid_next_a m_factors_euclid_next_b m_factors_euclid_nextOfFirst_a m_factors_euclid_nextOfFirst_b m_factors_euclid_nextOfSecond_a m_factors_euclid_nextOfSecond_b m_factors_euclid_q_a m_factors_euclid_q_b m_factors_euclid_quotientA m_factors_euclid_quotientB m_factors_left_a m_factors_left_b m_factors_found_a m_factors_found_b m_factors_product_a m_factors_product_b m_primes_count m_primes_primeA m_primes_primeB m_primes_found_a m_primes_found_b m_rings_foundA m_rings_foundB m_rings_all m_rings_mostOfOneRow m_letters_count m_letters_bytes m_one_a m_one_b m_two_a m_two_b m_three_a m_three_b m_four_a m_four_b m_out_a m_out_b m_spare_a m_spare_b m_marks y4 hy4) rfl rfl [] rfl rfl rfl rfl rfl rfl (fun H locs X => ?_)
  refine x_istore 9 C dX10_inverse_7 [(4, .int y4.1), (0, .ref (h 0)), (1, .int v1), (2, .int v2), (3, .int v3)] hl rfl rfl rfl (fun ls hl => ?_)
  refine x_iload 11 C dX10_inverse_9 hl 0 rfl rfl ?_
  refine x_if_eq 17 14 C dX10_inverse_11 rfl rfl hf (fun hf => ?_) (fun hf => ?_)
  · refine x_aload_n 18 C dX10_inverse_17 hl 1 rfl rfl ?_
    refine x_get 21 C dX10_inverse_18 X kf_X10_28 0 rfl rfl rfl ?_
    refine x_aload_n 22 C dX10_inverse_21 hl 1 rfl rfl ?_
    refine x_get 25 C dX10_inverse_22 X kf_X10_70 0 rfl rfl rfl ?_
    refine x_aload_n 26 C dX10_inverse_25 hl 1 rfl rfl ?_
    refine x_get 29 C dX10_inverse_26 X kf_X10_74 0 rfl rfl rfl ?_
    refine x_aload_n 30 C dX10_inverse_29 hl 1 rfl rfl ?_
    refine x_get 33 C dX10_inverse_30 X kf_X10_83 0 rfl rfl rfl ?_
    obtain ⟨y33, hy33, hf⟩ := kx_bind hf
    refine x_callVi 36 C dX10_inverse_33 X hl kl_X10_280 (c_X1_invert E.2.1 D T (h 9) (h 10) (h 11) (h 12) (h 13) (h 14) (h 15) (h 16) (h 17) (h 18) (h 45) (h 46) (h 49) N  m_euclid_count m_euclid_last_a m_euclid_last_b m_euclid_lastOfFirst_a m_euclid_lastOfFirst_b m_euclid_lastOfSecond_a m_euclid_lastOfSecond_b m_euclid_next_a m_euclid_next_b m_euclid_nextOfFirst_a m_euclid_nextOfFirst_b m_euclid_nextOfSecond_a m_euclid_nextOfSecond_b m_euclid_q_a m_euclid_q_b m_euclid_quotientA m_euclid_quotientB y4.2.2.2.2.1 y4.2.2.2.2.2.1 y4.2.2.2.2.2.2.1 y4.2.2.2.2.2.2.2 m_out_a m_out_b y33 hy33) rfl rfl [] rfl rfl rfl rfl rfl cb_101 rfl (fun H locs X => ?_)
    refine x_if_ne 42 39 C dX10_inverse_36 rfl rfl hf (fun hf => ?_) (fun hf => ?_)
    · refine x_aload_n 43 C dX10_inverse_42 hl 1 rfl rfl ?_
      refine x_get 46 C dX10_inverse_43 X kf_X10_35 0 rfl rfl rfl ?_
      refine x_aload_n 47 C dX10_inverse_46 hl 1 rfl rfl ?_
      refine x_get 50 C dX10_inverse_47 X kf_X10_83 0 rfl rfl rfl ?_
      obtain ⟨y50, hy50, hf⟩ := kx_bind hf
      refine x_callVv 53 C dX10_inverse_50 X hl kl_X10_270 (c_X4_reduce E.2.1 D T (h 19) (h 20) (h 49)  y4.2.1 y4.2.2.1 y4.2.2.2.1 y33.2.2.2.2.2.2.2.2.2.2.2.2.2.2.2.2.2.2.1 y33.2.2.2.2.2.2.2.2.2.2.2.2.2.2.2.2.2.2.2 y50 hy50) rfl rfl [] rfl rfl rfl rfl rfl cb_102 rfl (fun H locs X => ?_)
      refine x_aload_n 54 C dX10_inverse_53 hl 1 rfl rfl ?_
      refine x_get 57 C dX10_inverse_54 X kf_X10_83 0 rfl rfl rfl ?_
      refine x_iload_n 58 C dX10_inverse_57 hl 4 rfl rfl ?_
      obtain ⟨y58, hy58, hf⟩ := kx_bind hf
      refine x_callSi 61 C dX10_inverse_58 X hl kl_X10_273 (c_X10_part E.2.1 D T (h 49) v3 y50.1 y50.2 y58 hy58) [] rfl rfl rfl rfl rfl cb_73 rfl (fun H locs X => ?_)
      obtain rfl := Option.some.inj hf
      exact R _ _ _ _ X dX10_inverse_61
    refine x_bipush 41 C dX10_inverse_39 (-4 : Int32) kv_bipush_m4 rfl ?_
    obtain rfl := Option.some.inj hf
    exact R _ _ _ _ X dX10_inverse_41
  refine x_iload 16 C dX10_inverse_14 hl 0 rfl rfl ?_
  obtain rfl := Option.some.inj hf
  exact R _ _ _ _ X dX10_inverse_16
