set_option maxHeartbeats 4000000 in
set_option maxRecDepth 100000 in
theorem w_X11_oftenThree_14 {E : KE} {A : Nat → Prop} {D : va_G} {T : KT} (h : Nat → Nat) (C : kx_C E cX11_oftenThree 5 (some .int) RX11 4 95 D T) (N : Nat) (x : Int32 × Int64 × Int64 × Int32) (m_taped m_states m_primes m_ones m_unit : Int32) (m_allParts m_allNorms m_allClasses : Int64) (m_odd : Int32) (m_boxWide m_boxHigh m_boxStep : Int64) (m_partingMany : Int32) (m_qa m_qb m_la m_lb m_sa m_sb m_ta m_tb : Int64) (m_listed m_tells m_wanted m_found : Int32) (m_bits : Int64) (m_power2 m_rings m_ringA m_ringB m_seedNow : Int32) (m_tape m_has m_keptHas m_first m_second m_keptFirst m_keptSecond m_pa m_pb m_pNorm m_cubed m_isOpen m_signs m_often m_la0 m_lb0 : Nat → Int32) (R : kx_RI E cX11_oftenThree D A (wM T h m_taped m_states x.2.1 x.2.2.1 x.2.2.2 m_primes m_ones m_unit m_allParts m_allNorms m_allClasses m_odd m_boxWide m_boxHigh m_boxStep m_partingMany m_qa m_qb m_la m_lb m_sa m_sb m_ta m_tb m_listed m_tells m_wanted m_found m_bits m_power2 m_rings m_ringA m_ringB m_seedNow m_tape m_has m_keptHas m_first m_second m_keptFirst m_keptSecond m_pa m_pb m_pNorm m_cubed m_isOpen m_signs m_often m_la0 m_lb0) x.1) : ∀ (m_ra m_rb : Int64) (m_threes : Int32) (v1 v3 : Int64) (H : Heap) (locs : List Loc) (ls : Array Slot), kx_H E D A H locs (wM T h m_taped m_states m_ra m_rb m_threes m_primes m_ones m_unit m_allParts m_allNorms m_allClasses m_odd m_boxWide m_boxHigh m_boxStep m_partingMany m_qa m_qb m_la m_lb m_sa m_sb m_ta m_tb m_listed m_tells m_wanted m_found m_bits m_power2 m_rings m_ringA m_ringB m_seedNow m_tape m_has m_keptHas m_first m_second m_keptFirst m_keptSecond m_pa m_pb m_pNorm m_cubed m_isOpen m_signs m_often m_la0 m_lb0) → lv_has ls 5 [(0, .ref (h 0)), (1, .long v1), (3, .long v3)] → f_X11_oftenThree_14 N v1 v3 = some x → kx_W E H locs 14 ls [] := by
  intro m_ra m_rb m_threes v1 v3 H locs ls X hl hf
  rw [f_X11_oftenThree_14] at hf
  refine x_aload_n 15 C dX11_oftenThree_14 hl 0 rfl rfl ?_
  refine x_lload_n 16 C dX11_oftenThree_15 hl 1 rfl rfl ?_
  refine x_lload_n 17 C dX11_oftenThree_16 hl 2 rfl rfl ?_
  obtain ⟨y17, hy17, hf⟩ := kx_bind hf
  refine x_callVv0 20 C dX11_oftenThree_17 X hl kl_X11_148 (c_X11_takesThrees E.2.1 D T h N v1 v3 m_taped m_states m_ra m_rb m_threes m_primes m_ones m_unit m_allParts m_allNorms m_allClasses m_odd m_boxWide m_boxHigh m_boxStep m_partingMany m_qa m_qb m_la m_lb m_sa m_sb m_ta m_tb m_listed m_tells m_wanted m_found m_bits m_power2 m_rings m_ringA m_ringB m_seedNow m_tape m_has m_keptHas m_first m_second m_keptFirst m_keptSecond m_pa m_pb m_pNorm m_cubed m_isOpen m_signs m_often m_la0 m_lb0 y17 hy17) rfl rfl [] rfl rfl rfl rfl rfl rfl (fun H locs X => ?_)
  refine x_aload_n 21 C dX11_oftenThree_20 hl 0 rfl rfl ?_
  refine x_get 24 C dX11_oftenThree_21 X kf_X11_139 0 rfl rfl rfl ?_
  obtain rfl := Option.some.inj hf
  exact R _ _ _ _ X dX11_oftenThree_24
set_option maxHeartbeats 4000000 in
set_option maxRecDepth 100000 in
theorem c_X11_oftenThree (l : Launch) (D : va_G) (T : KT) (h : Nat → Nat) (N : Nat) (v1 v3 : Int64) (m_taped m_states : Int32) (m_ra m_rb : Int64) (m_threes m_primes m_ones m_unit : Int32) (m_allParts m_allNorms m_allClasses : Int64) (m_odd : Int32) (m_boxWide m_boxHigh m_boxStep : Int64) (m_partingMany : Int32) (m_qa m_qb m_la m_lb m_sa m_sb m_ta m_tb : Int64) (m_listed m_tells m_wanted m_found : Int32) (m_bits : Int64) (m_power2 m_rings m_ringA m_ringB m_seedNow : Int32) (m_tape m_has m_keptHas m_first m_second m_keptFirst m_keptSecond m_pa m_pb m_pNorm m_cubed m_isOpen m_signs m_often m_la0 m_lb0 : Nat → Int32) (x : Int32 × Int64 × Int64 × Int32) (hf : f_X11_oftenThree N v1 v3 m_ra m_rb m_threes = some x) : kx_MI l yX11_oftenThree cX11_oftenThree 5 (some .int) 4 95 D T [.ref (h 0), .long v1, .long v3] (wM T h m_taped m_states m_ra m_rb m_threes m_primes m_ones m_unit m_allParts m_allNorms m_allClasses m_odd m_boxWide m_boxHigh m_boxStep m_partingMany m_qa m_qb m_la m_lb m_sa m_sb m_ta m_tb m_listed m_tells m_wanted m_found m_bits m_power2 m_rings m_ringA m_ringB m_seedNow m_tape m_has m_keptHas m_first m_second m_keptFirst m_keptSecond m_pa m_pb m_pNorm m_cubed m_isOpen m_signs m_often m_la0 m_lb0) (wM T h m_taped m_states x.2.1 x.2.2.1 x.2.2.2 m_primes m_ones m_unit m_allParts m_allNorms m_allClasses m_odd m_boxWide m_boxHigh m_boxStep m_partingMany m_qa m_qb m_la m_lb m_sa m_sb m_ta m_tb m_listed m_tells m_wanted m_found m_bits m_power2 m_rings m_ringA m_ringB m_seedNow m_tape m_has m_keptHas m_first m_second m_keptFirst m_keptSecond m_pa m_pb m_pNorm m_cubed m_isOpen m_signs m_often m_la0 m_lb0) x.1 := by
  refine kx_ofMI RX11 rfl (plainFor_of_name (x := yX11_oftenThree) kpn_X11) rfl ?_
  intro E A H ls _ C X R hl
  have hl : lv_has ls 5 [(0, .ref (h 0)), (1, .long v1), (3, .long v3)] := hl
  rw [f_X11_oftenThree] at hf
  refine x_lload_n 1 C dX11_oftenThree_0 hl 1 rfl rfl ?_
  refine x_lconst 2 C dX11_oftenThree_1 (0 : Int64) kv_lconst_0 rfl ?_
  refine x_lcmp_ne 14 3 6 C dX11_oftenThree_2 dX11_oftenThree_3 rfl rfl rfl hf (fun hf => ?_) (fun hf => ?_)
  · exact w_X11_oftenThree_14 h C N x m_taped m_states m_primes m_ones m_unit m_allParts m_allNorms m_allClasses m_odd m_boxWide m_boxHigh m_boxStep m_partingMany m_qa m_qb m_la m_lb m_sa m_sb m_ta m_tb m_listed m_tells m_wanted m_found m_bits m_power2 m_rings m_ringA m_ringB m_seedNow m_tape m_has m_keptHas m_first m_second m_keptFirst m_keptSecond m_pa m_pb m_pNorm m_cubed m_isOpen m_signs m_often m_la0 m_lb0 R  m_ra m_rb m_threes v1 v3 _ _ _ X (lv_sub hl [0, 1, 2] rfl) hf
  refine x_lload_n 7 C dX11_oftenThree_6 hl 2 rfl rfl ?_
  refine x_lconst 8 C dX11_oftenThree_7 (0 : Int64) kv_lconst_0 rfl ?_
  refine x_lcmp_ne 14 9 12 C dX11_oftenThree_8 dX11_oftenThree_9 rfl rfl rfl hf (fun hf => ?_) (fun hf => ?_)
  · exact w_X11_oftenThree_14 h C N x m_taped m_states m_primes m_ones m_unit m_allParts m_allNorms m_allClasses m_odd m_boxWide m_boxHigh m_boxStep m_partingMany m_qa m_qb m_la m_lb m_sa m_sb m_ta m_tb m_listed m_tells m_wanted m_found m_bits m_power2 m_rings m_ringA m_ringB m_seedNow m_tape m_has m_keptHas m_first m_second m_keptFirst m_keptSecond m_pa m_pb m_pNorm m_cubed m_isOpen m_signs m_often m_la0 m_lb0 R  m_ra m_rb m_threes v1 v3 _ _ _ X (lv_sub hl [0, 1, 2] rfl) hf
  refine x_iconst 13 C dX11_oftenThree_12 (-1 : Int32) kv_iconst_m1 rfl ?_
  obtain rfl := Option.some.inj hf
  exact R _ _ _ _ X dX11_oftenThree_13
set_option maxHeartbeats 4000000 in
set_option maxRecDepth 100000 in
theorem c_X11_told (l : Launch) (D : va_G) (T : KT) (h : Nat → Nat) (N : Nat) (v1 v2 : Int32) (m_taped m_states : Int32) (m_ra m_rb : Int64) (m_threes m_primes m_ones m_unit : Int32) (m_allParts m_allNorms m_allClasses : Int64) (m_odd : Int32) (m_boxWide m_boxHigh m_boxStep : Int64) (m_partingMany : Int32) (m_qa m_qb m_la m_lb m_sa m_sb m_ta m_tb : Int64) (m_listed m_tells m_wanted m_found : Int32) (m_bits : Int64) (m_power2 m_rings m_ringA m_ringB m_seedNow : Int32) (m_tape m_has m_keptHas m_first m_second m_keptFirst m_keptSecond m_pa m_pb m_pNorm m_cubed m_isOpen m_signs m_often m_la0 m_lb0 : Nat → Int32) (x : Int32 × Int64 × Int64 × Int32) (hf : f_X11_told N v1 v2 m_ra m_rb m_threes m_has m_first m_second = some x) : kx_MI l yX11_told cX11_told 5 (some .int) 5 119 D T [.ref (h 0), .int v1, .int v2] (wM T h m_taped m_states m_ra m_rb m_threes m_primes m_ones m_unit m_allParts m_allNorms m_allClasses m_odd m_boxWide m_boxHigh m_boxStep m_partingMany m_qa m_qb m_la m_lb m_sa m_sb m_ta m_tb m_listed m_tells m_wanted m_found m_bits m_power2 m_rings m_ringA m_ringB m_seedNow m_tape m_has m_keptHas m_first m_second m_keptFirst m_keptSecond m_pa m_pb m_pNorm m_cubed m_isOpen m_signs m_often m_la0 m_lb0) (wM T h m_taped m_states x.2.1 x.2.2.1 x.2.2.2 m_primes m_ones m_unit m_allParts m_allNorms m_allClasses m_odd m_boxWide m_boxHigh m_boxStep m_partingMany m_qa m_qb m_la m_lb m_sa m_sb m_ta m_tb m_listed m_tells m_wanted m_found m_bits m_power2 m_rings m_ringA m_ringB m_seedNow m_tape m_has m_keptHas m_first m_second m_keptFirst m_keptSecond m_pa m_pb m_pNorm m_cubed m_isOpen m_signs m_often m_la0 m_lb0) x.1 := by
  refine kx_ofMI RX11 rfl (plainFor_of_name (x := yX11_told) kpn_X11) rfl ?_
  intro E A H ls _ C X R hl
  have hl : lv_has ls 5 [(0, .ref (h 0)), (1, .int v1), (2, .int v2)] := hl
  rw [f_X11_told] at hf
  refine x_iload_n 1 C dX11_told_0 hl 1 rfl rfl ?_
  obtain ⟨y1, hy1, hf⟩ := kx_bind hf
  refine x_callSi 4 C dX11_told_1 X hl kl_X11_85 (c_X11_isDrawer E.2.1 D T  v1  y1 hy1) [] rfl rfl rfl rfl rfl cb_7 rfl (fun H locs X => ?_)
  refine x_if_eq 16 7 C dX11_told_4 rfl rfl hf (fun hf => ?_) (fun hf => ?_)
  · refine x_ldc 18 C dX11_told_16 (-2147483648 : Int32) kc_X11_164 rfl ?_
    obtain rfl := Option.some.inj hf
    exact R _ _ _ _ X dX11_told_18
  refine x_aload_n 8 C dX11_told_7 hl 0 rfl rfl ?_
  refine x_get 11 C dX11_told_8 X kf_X11_13 0 rfl rfl rfl ?_
  refine x_iload_n 12 C dX11_told_11 hl 1 rfl rfl ?_
  refine x_zald 13 C dX11_told_12 X 2 rfl hf rfl (fun hf => ?_)
  refine x_if_ne 19 16 C dX11_told_13 rfl rfl hf (fun hf => ?_) (fun hf => ?_)
  · refine x_aload_n 20 C dX11_told_19 hl 0 rfl rfl ?_
    refine x_get 23 C dX11_told_20 X kf_X11_20 0 rfl rfl rfl ?_
    refine x_iload_n 24 C dX11_told_23 hl 1 rfl rfl ?_
    refine x_iald 25 C dX11_told_24 X 4 rfl hf rfl (fun hf => ?_)
    refine x_istore_n 26 C dX11_told_25 [(3, .int (m_first (v1).toNatClampNeg)), (0, .ref (h 0)), (1, .int v1), (2, .int v2)] hl rfl rfl rfl (fun ls hl => ?_)
    refine x_aload_n 27 C dX11_told_26 hl 1 rfl rfl ?_
    refine x_get 30 C dX11_told_27 X kf_X11_24 0 rfl rfl rfl ?_
    refine x_iload_n 31 C dX11_told_30 hl 2 rfl rfl ?_
    refine x_iald 32 C dX11_told_31 X 5 rfl hf rfl (fun hf => ?_)
    refine x_istore 34 C dX11_told_32 [(4, .int (m_second (v1).toNatClampNeg)), (3, .int (m_first (v1).toNatClampNeg)), (0, .ref (h 0)), (1, .int v1), (2, .int v2)] hl rfl rfl rfl (fun ls hl => ?_)
    refine x_iload_n 35 C dX11_told_34 hl 4 rfl rfl ?_
    refine kx_sw hf (fun hs0 hf => ?_) (fun hs0 hf => ?_)
    · refine x_table (off := 45) 80 C dX11_told_35 (0 : Int32) hs0 (by decide) (by decide) (by decide) rfl ?_
      refine x_iload_n 81 C dX11_told_80 hl 1 rfl rfl ?_
      obtain rfl := Option.some.inj hf
      exact R _ _ _ _ X dX11_told_81
    refine kx_sw hf (fun hs1 hf => ?_) (fun hs1 hf => ?_)
    · refine x_table (off := 47) 82 C dX11_told_35 (1 : Int32) hs1 (by decide) (by decide) (by decide) rfl ?_
      refine x_iload 84 C dX11_told_82 hl 0 rfl rfl ?_
      obtain rfl := Option.some.inj hf
      exact R _ _ _ _ X dX11_told_84
    refine kx_sw hf (fun hs2 hf => ?_) (fun hs2 hf => ?_)
    · refine x_table (off := 50) 85 C dX11_told_35 (2 : Int32) hs2 (by decide) (by decide) (by decide) rfl ?_
      refine x_iload_n 86 C dX11_told_85 hl 1 rfl rfl ?_
      refine x_i2l 87 C dX11_told_86 rfl ?_
      refine x_iload 89 C dX11_told_87 hl 0 rfl rfl ?_
      refine x_i2l 90 C dX11_told_89 rfl ?_
      obtain ⟨y90, hy90, hf⟩ := kx_bind hf
      refine x_callSi 93 C dX11_told_90 X hl kl_X11_160 (c_X11_normOf E.2.1 D T  ((m_first (v1).toNatClampNeg)).toInt64 ((m_second (v1).toNatClampNeg)).toInt64  y90 hy90) [] rfl rfl rfl rfl rfl cb_7 rfl (fun H locs X => ?_)
      obtain rfl := Option.some.inj hf
      exact R _ _ _ _ X dX11_told_93
    refine kx_sw hf (fun hs3 hf => ?_) (fun hs3 hf => ?_)
    · refine x_table (off := 59) 94 C dX11_told_35 (3 : Int32) hs3 (by decide) (by decide) (by decide) rfl ?_
      refine x_iload_n 95 C dX11_told_94 hl 1 rfl rfl ?_
      refine x_i2l 96 C dX11_told_95 rfl ?_
      refine x_iload 98 C dX11_told_96 hl 0 rfl rfl ?_
      refine x_i2l 99 C dX11_told_98 rfl ?_
      obtain ⟨y99, hy99, hf⟩ := kx_bind hf
      refine x_callSi 102 C dX11_told_99 X hl kl_X11_142 (c_X11_isThree E.2.1 D T  ((m_first (v1).toNatClampNeg)).toInt64 ((m_second (v1).toNatClampNeg)).toInt64  y99 hy99) [] rfl rfl rfl rfl rfl cb_7 rfl (fun H locs X => ?_)
      refine x_if_eq 109 105 C dX11_told_102 rfl rfl hf (fun hf => ?_) (fun hf => ?_)
      · refine x_iconst 110 C dX11_told_109 (0 : Int32) kv_iconst_0 rfl ?_
        obtain rfl := Option.some.inj hf
        exact R _ _ _ _ X dX11_told_110
      refine x_iconst 106 C dX11_told_105 (1 : Int32) kv_iconst_1 rfl ?_
      refine x_goto 110 C dX11_told_106 rfl ?_
      obtain rfl := Option.some.inj hf
      exact R _ _ _ _ X dX11_told_110
    refine kx_sw hf (fun hs4 hf => ?_) (fun hs4 hf => ?_)
    · refine x_table (off := 76) 111 C dX11_told_35 (4 : Int32) hs4 (by decide) (by decide) (by decide) rfl ?_
      refine x_iload_n 112 C dX11_told_111 hl 1 rfl rfl ?_
      refine x_i2l 113 C dX11_told_112 rfl ?_
      refine x_iload 115 C dX11_told_113 hl 0 rfl rfl ?_
      refine x_i2l 116 C dX11_told_115 rfl ?_
      obtain ⟨y116, hy116, hf⟩ := kx_bind hf
      refine x_callSi 119 C dX11_told_116 X hl kl_X11_145 (c_X11_isPrimary E.2.1 D T  ((m_first (v1).toNatClampNeg)).toInt64 ((m_second (v1).toNatClampNeg)).toInt64  y116 hy116) [] rfl rfl rfl rfl rfl cb_7 rfl (fun H locs X => ?_)
      refine x_if_eq 126 122 C dX11_told_119 rfl rfl hf (fun hf => ?_) (fun hf => ?_)
      · refine x_iconst 127 C dX11_told_126 (0 : Int32) kv_iconst_0 rfl ?_
        obtain rfl := Option.some.inj hf
        exact R _ _ _ _ X dX11_told_127
      refine x_iconst 123 C dX11_told_122 (1 : Int32) kv_iconst_1 rfl ?_
      refine x_goto 127 C dX11_told_123 rfl ?_
      obtain rfl := Option.some.inj hf
      exact R _ _ _ _ X dX11_told_127
    refine kx_sw hf (fun hs5 hf => ?_) (fun hs5 hf => ?_)
    · refine x_table (off := 93) 128 C dX11_told_35 (5 : Int32) hs5 (by decide) (by decide) (by decide) rfl ?_
      refine x_iload_n 129 C dX11_told_128 hl 1 rfl rfl ?_
      refine x_i2l 130 C dX11_told_129 rfl ?_
      refine x_iload 132 C dX11_told_130 hl 0 rfl rfl ?_
      refine x_i2l 133 C dX11_told_132 rfl ?_
      obtain ⟨y133, hy133, hf⟩ := kx_bind hf
      refine x_callSi 136 C dX11_told_133 X hl kl_X11_165 (c_X11_isPrime E.2.1 D T  N ((m_first (v1).toNatClampNeg)).toInt64 ((m_second (v1).toNatClampNeg)).toInt64  y133 hy133) [] rfl rfl rfl rfl rfl cb_7 rfl (fun H locs X => ?_)
      refine x_if_eq 143 139 C dX11_told_136 rfl rfl hf (fun hf => ?_) (fun hf => ?_)
      · refine x_iconst 144 C dX11_told_143 (0 : Int32) kv_iconst_0 rfl ?_
        obtain rfl := Option.some.inj hf
        exact R _ _ _ _ X dX11_told_144
      refine x_iconst 140 C dX11_told_139 (1 : Int32) kv_iconst_1 rfl ?_
      refine x_goto 144 C dX11_told_140 rfl ?_
      obtain rfl := Option.some.inj hf
      exact R _ _ _ _ X dX11_told_144
    refine kx_sw hf (fun hs6 hf => ?_) (fun hs6 hf => ?_)
    · refine x_table (off := 110) 145 C dX11_told_35 (6 : Int32) hs6 (by decide) (by decide) (by decide) rfl ?_
      refine x_iload_n 146 C dX11_told_145 hl 1 rfl rfl ?_
      refine x_i2l 147 C dX11_told_146 rfl ?_
      refine x_iload 149 C dX11_told_147 hl 0 rfl rfl ?_
      refine x_i2l 150 C dX11_told_149 rfl ?_
      obtain ⟨y150, hy150, hf⟩ := kx_bind hf
      refine x_callSi 153 C dX11_told_150 X hl kl_X11_168 (c_X11_unitOf E.2.1 D T  ((m_first (v1).toNatClampNeg)).toInt64 ((m_second (v1).toNatClampNeg)).toInt64  y150 hy150) [] rfl rfl rfl rfl rfl cb_7 rfl (fun H locs X => ?_)
      obtain rfl := Option.some.inj hf
      exact R _ _ _ _ X dX11_told_153
    refine kx_sw hf (fun hs7 hf => ?_) (fun hs7 hf => ?_)
    · refine x_table (off := 119) 154 C dX11_told_35 (7 : Int32) hs7 (by decide) (by decide) (by decide) rfl ?_
      refine x_aload_n 155 C dX11_told_154 hl 2 rfl rfl ?_
      refine x_iload_n 156 C dX11_told_155 hl 1 rfl rfl ?_
      refine x_i2l 157 C dX11_told_156 rfl ?_
      refine x_iload 159 C dX11_told_157 hl 0 rfl rfl ?_
      refine x_i2l 160 C dX11_told_159 rfl ?_
      obtain ⟨y160, hy160, hf⟩ := kx_bind hf
      refine x_callVi0 163 C dX11_told_160 X hl kl_X11_171 (c_X11_oftenThree E.2.1 D T h N ((m_first (v1).toNatClampNeg)).toInt64 ((m_second (v1).toNatClampNeg)).toInt64 m_taped m_states m_ra m_rb m_threes m_primes m_ones m_unit m_allParts m_allNorms m_allClasses m_odd m_boxWide m_boxHigh m_boxStep m_partingMany m_qa m_qb m_la m_lb m_sa m_sb m_ta m_tb m_listed m_tells m_wanted m_found m_bits m_power2 m_rings m_ringA m_ringB m_seedNow m_tape m_has m_keptHas m_first m_second m_keptFirst m_keptSecond m_pa m_pb m_pNorm m_cubed m_isOpen m_signs m_often m_la0 m_lb0 y160 hy160) rfl rfl [] rfl rfl rfl rfl rfl rfl (fun H locs X => ?_)
      obtain rfl := Option.some.inj hf
      exact R _ _ _ _ X dX11_told_163
    refine x_tableOut 164 C dX11_told_35 (by have hn0 := lv_neT (a := 0) hs0 (by decide); have hn1 := lv_neT (a := 1) hs1 (by decide); have hn2 := lv_neT (a := 2) hs2 (by decide); have hn3 := lv_neT (a := 3) hs3 (by decide); have hn4 := lv_neT (a := 4) hs4 (by decide); have hn5 := lv_neT (a := 5) hs5 (by decide); have hn6 := lv_neT (a := 6) hs6 (by decide); have hn7 := lv_neT (a := 7) hs7 (by decide); omega) rfl ?_
    refine x_ldc 166 C dX11_told_164 (-2147483648 : Int32) kc_X11_164 rfl ?_
    obtain rfl := Option.some.inj hf
    exact R _ _ _ _ X dX11_told_166
  refine x_ldc 18 C dX11_told_16 (-2147483648 : Int32) kc_X11_164 rfl ?_
  obtain rfl := Option.some.inj hf
  exact R _ _ _ _ X dX11_told_18
set_option maxHeartbeats 4000000 in
set_option maxRecDepth 100000 in
theorem c_X5_add (l : Launch) (D : va_G) (T : KT) (h0 h1 : Nat)  (m_a m_b m_p1_a m_p1_b : Int64) (x : Int64 × Int64) (hf : f_X5_add m_a m_b m_p1_a m_p1_b = some x) : kx_MV l yX5_add cX5_add 2 none 0 0 D T [.ref h0, .ref h1] (w12_X5 T h0 h1 m_a m_b m_p1_a m_p1_b) (w12_X5 T h0 h1 x.1 x.2 m_p1_a m_p1_b) := by
  refine kx_ofMV RX5 rfl (plainFor_of_name (x := yX5_add) kpn_X5) rfl ?_
  intro E A H ls _ C X R hl
  have hl : lv_has ls 2 [(0, .ref h0), (1, .ref h1)] := hl
  rw [f_X5_add] at hf
  refine x_aload_n 1 C dX5_add_0 hl 0 rfl rfl ?_
  refine x_dup 2 C dX5_add_1 rfl rfl ?_
  refine x_get 5 C dX5_add_2 X kf_X5_9 0 rfl rfl rfl ?_
  refine x_aload_n 6 C dX5_add_5 hl 1 rfl rfl ?_
  refine x_get 9 C dX5_add_6 X kf_X5_9 1 rfl rfl rfl ?_
  refine x_ladd 10 C dX5_add_9 rfl ?_
  refine x_put 13 C dX5_add_10 X kp_X5_9 0 rfl rfl rfl rfl (w12_X5 T h0 h1 (m_a + m_p1_a) m_b m_p1_a m_p1_b) rfl rfl (fun H locs X => ?_)
  refine x_aload_n 14 C dX5_add_13 hl 0 rfl rfl ?_
  refine x_dup 15 C dX5_add_14 rfl rfl ?_
  refine x_get 18 C dX5_add_15 X kf_X5_15 0 rfl rfl rfl ?_
  refine x_aload_n 19 C dX5_add_18 hl 1 rfl rfl ?_
  refine x_get 22 C dX5_add_19 X kf_X5_15 1 rfl rfl rfl ?_
  refine x_ladd 23 C dX5_add_22 rfl ?_
  refine x_put 26 C dX5_add_23 X kp_X5_15 0 rfl rfl rfl rfl (w12_X5 T h0 h1 (m_a + m_p1_a) (m_b + m_p1_b) m_p1_a m_p1_b) rfl rfl (fun H locs X => ?_)
  obtain rfl := Option.some.inj hf
  exact R _ _ _ _ X dX5_add_26
set_option maxHeartbeats 4000000 in
set_option maxRecDepth 100000 in
theorem c_X5_subtract (l : Launch) (D : va_G) (T : KT) (h0 h1 : Nat)  (m_a m_b m_p1_a m_p1_b : Int64) (x : Int64 × Int64) (hf : f_X5_subtract m_a m_b m_p1_a m_p1_b = some x) : kx_MV l yX5_subtract cX5_subtract 2 none 0 0 D T [.ref h0, .ref h1] (w12_X5 T h0 h1 m_a m_b m_p1_a m_p1_b) (w12_X5 T h0 h1 x.1 x.2 m_p1_a m_p1_b) := by
  refine kx_ofMV RX5 rfl (plainFor_of_name (x := yX5_subtract) kpn_X5) rfl ?_
  intro E A H ls _ C X R hl
  have hl : lv_has ls 2 [(0, .ref h0), (1, .ref h1)] := hl
  rw [f_X5_subtract] at hf
  refine x_aload_n 1 C dX5_subtract_0 hl 0 rfl rfl ?_
  refine x_dup 2 C dX5_subtract_1 rfl rfl ?_
  refine x_get 5 C dX5_subtract_2 X kf_X5_9 0 rfl rfl rfl ?_
  refine x_aload_n 6 C dX5_subtract_5 hl 1 rfl rfl ?_
  refine x_get 9 C dX5_subtract_6 X kf_X5_9 1 rfl rfl rfl ?_
  refine x_lsub 10 C dX5_subtract_9 rfl ?_
  refine x_put 13 C dX5_subtract_10 X kp_X5_9 0 rfl rfl rfl rfl (w12_X5 T h0 h1 (m_a - m_p1_a) m_b m_p1_a m_p1_b) rfl rfl (fun H locs X => ?_)
  refine x_aload_n 14 C dX5_subtract_13 hl 0 rfl rfl ?_
  refine x_dup 15 C dX5_subtract_14 rfl rfl ?_
  refine x_get 18 C dX5_subtract_15 X kf_X5_15 0 rfl rfl rfl ?_
  refine x_aload_n 19 C dX5_subtract_18 hl 1 rfl rfl ?_
  refine x_get 22 C dX5_subtract_19 X kf_X5_15 1 rfl rfl rfl ?_
  refine x_lsub 23 C dX5_subtract_22 rfl ?_
  refine x_put 26 C dX5_subtract_23 X kp_X5_15 0 rfl rfl rfl rfl (w12_X5 T h0 h1 (m_a - m_p1_a) (m_b - m_p1_b) m_p1_a m_p1_b) rfl rfl (fun H locs X => ?_)
  obtain rfl := Option.some.inj hf
  exact R _ _ _ _ X dX5_subtract_26
set_option maxHeartbeats 4000000 in
set_option maxRecDepth 100000 in
theorem w_X5_makeOwn_11 {E : KE} {A : Nat → Prop} {D : va_G} {T : KT} (h0 : Nat) (C : kx_C E cX5_makeOwn 3 none RX5 3 66 D T) (N : Nat) (x : Int64 × Int64)  (R : kx_RV E cX5_makeOwn D A (w7_X5 T h0 x.1 x.2)) : ∀ (k : Nat), ∀ (m_a m_b : Int64) (v1 v2 : Int32) (H : Heap) (locs : List Loc) (ls : Array Slot), kx_H E D A H locs (w7_X5 T h0 m_a m_b) → lv_has ls 3 [(0, .ref h0), (1, .int v1), (2, .int v2)] → f_X5_makeOwn_11 N k v1 v2 m_a m_b = some x → kx_W E H locs 11 ls [] := by
  intro k
  induction k with
  | zero =>
    intro m_a m_b v1 v2 H locs ls X hl hf
    cases (show (none : Option (Int64 × Int64)) = some x from hf)
  | succ k ih =>
    intro m_a m_b v1 v2 H locs ls X hl hf
    rw [f_X5_makeOwn_11] at hf
    refine x_iload_n 12 C dX5_makeOwn_11 hl 2 rfl rfl ?_
    refine x_iload_n 13 C dX5_makeOwn_12 hl 1 rfl rfl ?_
    refine x_icmp_ge 48 16 C dX5_makeOwn_13 rfl rfl hf (fun hf => ?_) (fun hf => ?_)
    · obtain rfl := Option.some.inj hf
      exact R _ _ _ _ X dX5_makeOwn_48
    refine x_aload_n 17 C dX5_makeOwn_16 hl 0 rfl rfl ?_
    refine x_aload_n 18 C dX5_makeOwn_17 hl 0 rfl rfl ?_
    refine x_get 21 C dX5_makeOwn_18 X kf_X5_9 0 rfl rfl rfl ?_
    refine x_aload_n 22 C dX5_makeOwn_21 hl 0 rfl rfl ?_
    refine x_get 25 C dX5_makeOwn_22 X kf_X5_15 0 rfl rfl rfl ?_
    refine x_ladd 26 C dX5_makeOwn_25 rfl ?_
    refine x_ldc2_w 29 C dX5_makeOwn_26 (2 : Int64) kc_X5_34 rfl ?_
    refine x_aload_n 30 C dX5_makeOwn_29 hl 0 rfl rfl ?_
    refine x_get 33 C dX5_makeOwn_30 X kf_X5_15 0 rfl rfl rfl ?_
    refine x_lmul 34 C dX5_makeOwn_33 rfl ?_
    refine x_aload_n 35 C dX5_makeOwn_34 hl 0 rfl rfl ?_
    refine x_get 38 C dX5_makeOwn_35 X kf_X5_9 0 rfl rfl rfl ?_
    refine x_lsub 39 C dX5_makeOwn_38 rfl ?_
    obtain ⟨y39, hy39, hf⟩ := kx_bind hf
    refine x_callVv0 42 C dX5_makeOwn_39 X hl kl_X5_44 (c_X5_set E.2.1 D T h0 (m_a + m_b) (((2 : Int64) * m_b) - m_a) m_a m_b y39 hy39) rfl rfl [] rfl rfl rfl rfl rfl rfl (fun H locs X => ?_)
    refine x_iinc 45 C dX5_makeOwn_42 (1 : Int32) kv_iconst_1 [(2, .int (v2 + (1 : Int32))), (0, .ref h0), (1, .int v1)] hl 2 rfl rfl rfl rfl (fun ls hl => ?_)
    refine x_goto 11 C dX5_makeOwn_45 rfl ?_
    exact ih y39.1 y39.2 v1 (v2 + (1 : Int32)) _ _ _ X (lv_sub hl [1, 2, 0] rfl) hf
set_option maxHeartbeats 4000000 in
set_option maxRecDepth 100000 in
theorem c_X5_makeOwn (l : Launch) (D : va_G) (T : KT) (h0 : Nat) (N : Nat)  (m_a m_b : Int64) (x : Int64 × Int64) (hf : f_X5_makeOwn N m_a m_b = some x) : kx_MV l yX5_makeOwn cX5_makeOwn 3 none 3 66 D T [.ref h0] (w7_X5 T h0 m_a m_b) (w7_X5 T h0 x.1 x.2) := by
  refine kx_ofMV RX5 rfl (plainFor_of_name (x := yX5_makeOwn) kpn_X5) rfl ?_
  intro E A H ls _ C X R hl
  have hl : lv_has ls 3 [(0, .ref h0)] := hl
  rw [f_X5_makeOwn] at hf
  refine x_aload_n 1 C dX5_makeOwn_0 hl 0 rfl rfl ?_
  obtain ⟨y1, hy1, hf⟩ := kx_bind hf
  refine x_callVi0 4 C dX5_makeOwn_1 X hl kl_X5_68 (c_X5_takeOutThrees E.2.1 D T h0 N  m_a m_b y1 hy1) rfl rfl [] rfl rfl rfl rfl rfl rfl (fun H locs X => ?_)
  refine x_istore_n 5 C dX5_makeOwn_4 [(1, .int y1.1), (0, .ref h0)] hl rfl rfl rfl (fun ls hl => ?_)
  refine x_aload_n 6 C dX5_makeOwn_5 hl 1 rfl rfl ?_
  obtain ⟨y6, hy6, hf⟩ := kx_bind hf
  refine x_callVv0 9 C dX5_makeOwn_6 X hl kl_X5_72 (c_X5_makePrimary E.2.1 D T h0 N  y1.2.1 y1.2.2 y6 hy6) rfl rfl [] rfl rfl rfl rfl rfl rfl (fun H locs X => ?_)
  refine x_iconst 10 C dX5_makeOwn_9 (0 : Int32) kv_iconst_0 rfl ?_
  refine x_istore_n 11 C dX5_makeOwn_10 [(2, .int (0 : Int32)), (1, .int y1.1), (0, .ref h0)] hl rfl rfl rfl (fun ls hl => ?_)
  exact w_X5_makeOwn_11 h0 C N x  R  N y6.1 y6.2 y1.1 (0 : Int32) _ _ _ X (lv_sub hl [2, 1, 0] rfl) hf
set_option maxHeartbeats 4000000 in
set_option maxRecDepth 100000 in
theorem c_X10_reckon (l : Launch) (D : va_G) (T : KT) (h : Nat → Nat) (N : Nat) (v1 : Int32) (m_drawers_full m_drawers_kept : Int32) (m_drawers_partA m_drawers_partB m_drawers_keptA m_drawers_keptB m_drawers_keptFull : Nat → Int32) (m_tape_size m_tape_plain m_tape_omegas m_tape_end m_tape_place m_tape_plainTold m_tape_omegasTold : Int32) (m_tape_bytes : Nat → Int32) (m_euclid_count : Int32) (m_euclid_last_a m_euclid_last_b m_euclid_lastOfFirst_a m_euclid_lastOfFirst_b m_euclid_lastOfSecond_a m_euclid_lastOfSecond_b m_euclid_next_a m_euclid_next_b m_euclid_nextOfFirst_a m_euclid_nextOfFirst_b m_euclid_nextOfSecond_a m_euclid_nextOfSecond_b m_euclid_q_a m_euclid_q_b : Int64) (m_euclid_quotientA m_euclid_quotientB : Nat → Int64) (m_modulus_step m_modulus_width m_modulus_slant m_modulus_square_a m_modulus_square_b : Int64) (m_factors_count m_factors_threes m_factors_unit : Int32) (m_factors_primeA m_factors_primeB m_factors_norms : Nat → Int64) (m_factors_euclid_count : Int32) (m_factors_euclid_last_a m_factors_euclid_last_b m_factors_euclid_lastOfFirst_a m_factors_euclid_lastOfFirst_b m_factors_euclid_lastOfSecond_a m_factors_euclid_lastOfSecond_b m_factors_euclid_next_a m_factors_euclid_next_b m_factors_euclid_nextOfFirst_a m_factors_euclid_nextOfFirst_b m_factors_euclid_nextOfSecond_a m_factors_euclid_nextOfSecond_b m_factors_euclid_q_a m_factors_euclid_q_b : Int64) (m_factors_euclid_quotientA m_factors_euclid_quotientB : Nat → Int64) (m_factors_left_a m_factors_left_b m_factors_found_a m_factors_found_b m_factors_product_a m_factors_product_b : Int64) (m_primes_count : Int32) (m_primes_primeA m_primes_primeB : Nat → Int32) (m_primes_found_a m_primes_found_b : Int64) (m_rings_foundA m_rings_foundB m_rings_all m_rings_mostOfOneRow m_letters_count : Int32) (m_letters_bytes : Nat → Int32) (m_one_a m_one_b m_two_a m_two_b m_three_a m_three_b m_four_a m_four_b m_out_a m_out_b m_spare_a m_spare_b : Int64) (m_marks : Nat → Int32) (x : Int32 × Int64 × Int64 × Int64 × Int64 × Int64 × Int64 × Int64 × Int64 × Int64 × Int64 × Int64 × Int64 × Int64 × Int64 × (Nat → Int64) × (Nat → Int64) × Int64 × Int64 × Int64 × Int64) (hf : f_X10_reckon N v1 m_euclid_count m_euclid_last_a m_euclid_last_b m_euclid_lastOfFirst_a m_euclid_lastOfFirst_b m_euclid_lastOfSecond_a m_euclid_lastOfSecond_b m_euclid_next_a m_euclid_next_b m_euclid_nextOfFirst_a m_euclid_nextOfFirst_b m_euclid_nextOfSecond_a m_euclid_nextOfSecond_b m_euclid_q_a m_euclid_q_b m_euclid_quotientA m_euclid_quotientB m_one_a m_one_b m_two_a m_two_b m_spare_a m_spare_b = some x) : kx_MV l yX10_reckon cX10_reckon 2 none 4 88 D T [.ref (h 0), .int v1] (wC T h m_drawers_full m_drawers_kept m_drawers_partA m_drawers_partB m_drawers_keptA m_drawers_keptB m_drawers_keptFull m_tape_size m_tape_plain m_tape_omegas m_tape_end m_tape_place m_tape_plainTold m_tape_omegasTold m_tape_bytes m_euclid_count m_euclid_last_a m_euclid_last_b m_euclid_lastOfFirst_a m_euclid_lastOfFirst_b m_euclid_lastOfSecond_a m_euclid_lastOfSecond_b m_euclid_next_a m_euclid_next_b m_euclid_nextOfFirst_a m_euclid_nextOfFirst_b m_euclid_nextOfSecond_a m_euclid_nextOfSecond_b m_euclid_q_a m_euclid_q_b m_euclid_quotientA m_euclid_quotientB m_modulus_step m_modulus_width m_modulus_slant m_modulus_square_a m_modulus_square_b m_factors_count m_factors_threes m_factors_unit m_factors_primeA m_factors_primeB m_factors_norms m_factors_euclid_count m_factors_euclid_last_a m_factors_euclid_last_b m_factors_euclid_lastOfFirst_a m_factors_euclid_lastOfFirst_b m_factors_euclid_lastOfSecond_a m_factors_euclid_lastOfSecond_b m_factors_euclid_next_a m_factors_euclid_next_b m_factors_euclid_nextOfFirst_a m_factors_euclid_nextOfFirst_b m_factors_euclid_nextOfSecond_a m_factors_euclid_nextOfSecond_b m_factors_euclid_q_a m_factors_euclid_q_b m_factors_euclid_quotientA m_factors_euclid_quotientB m_factors_left_a m_factors_left_b m_factors_found_a m_factors_found_b m_factors_product_a m_factors_product_b m_primes_count m_primes_primeA m_primes_primeB m_primes_found_a m_primes_found_b m_rings_foundA m_rings_foundB m_rings_all m_rings_mostOfOneRow m_letters_count m_letters_bytes m_one_a m_one_b m_two_a m_two_b m_three_a m_three_b m_four_a m_four_b m_out_a m_out_b m_spare_a m_spare_b m_marks) (wC T h m_drawers_full m_drawers_kept m_drawers_partA m_drawers_partB m_drawers_keptA m_drawers_keptB m_drawers_keptFull m_tape_size m_tape_plain m_tape_omegas m_tape_end m_tape_place m_tape_plainTold m_tape_omegasTold m_tape_bytes x.1 x.2.1 x.2.2.1 x.2.2.2.1 x.2.2.2.2.1 x.2.2.2.2.2.1 x.2.2.2.2.2.2.1 x.2.2.2.2.2.2.2.1 x.2.2.2.2.2.2.2.2.1 x.2.2.2.2.2.2.2.2.2.1 x.2.2.2.2.2.2.2.2.2.2.1 x.2.2.2.2.2.2.2.2.2.2.2.1 x.2.2.2.2.2.2.2.2.2.2.2.2.1 x.2.2.2.2.2.2.2.2.2.2.2.2.2.1 x.2.2.2.2.2.2.2.2.2.2.2.2.2.2.1 x.2.2.2.2.2.2.2.2.2.2.2.2.2.2.2.1 x.2.2.2.2.2.2.2.2.2.2.2.2.2.2.2.2.1 m_modulus_step m_modulus_width m_modulus_slant m_modulus_square_a m_modulus_square_b m_factors_count m_factors_threes m_factors_unit m_factors_primeA m_factors_primeB m_factors_norms m_factors_euclid_count m_factors_euclid_last_a m_factors_euclid_last_b m_factors_euclid_lastOfFirst_a m_factors_euclid_lastOfFirst_b m_factors_euclid_lastOfSecond_a m_factors_euclid_lastOfSecond_b m_factors_euclid_next_a m_factors_euclid_next_b m_factors_euclid_nextOfFirst_a m_factors_euclid_nextOfFirst_b m_factors_euclid_nextOfSecond_a m_factors_euclid_nextOfSecond_b m_factors_euclid_q_a m_factors_euclid_q_b m_factors_euclid_quotientA m_factors_euclid_quotientB m_factors_left_a m_factors_left_b m_factors_found_a m_factors_found_b m_factors_product_a m_factors_product_b m_primes_count m_primes_primeA m_primes_primeB m_primes_found_a m_primes_found_b m_rings_foundA m_rings_foundB m_rings_all m_rings_mostOfOneRow m_letters_count m_letters_bytes m_one_a m_one_b m_two_a m_two_b m_three_a m_three_b m_four_a m_four_b x.2.2.2.2.2.2.2.2.2.2.2.2.2.2.2.2.2.1 x.2.2.2.2.2.2.2.2.2.2.2.2.2.2.2.2.2.2.1 x.2.2.2.2.2.2.2.2.2.2.2.2.2.2.2.2.2.2.2.1 x.2.2.2.2.2.2.2.2.2.2.2.2.2.2.2.2.2.2.2.2 m_marks) := by
  refine kx_ofMV RX10 rfl (plainFor_of_name (x := yX10_reckon) kpn_X10) rfl ?_
  intro E A H ls _ C X R hl
  have hl : lv_has ls 2 [(0, .ref (h 0)), (1, .int v1)] := hl
  rw [f_X10_reckon] at hf
  refine x_aload_n 1 C dX10_reckon_0 hl 0 rfl rfl ?_
  refine x_get 4 C dX10_reckon_1 X kf_X10_83 0 rfl rfl rfl ?_
  refine x_aload_n 5 C dX10_reckon_4 hl 0 rfl rfl ?_
  refine x_get 8 C dX10_reckon_5 X kf_X10_70 0 rfl rfl rfl ?_
  obtain ⟨y8, hy8, hf⟩ := kx_bind hf
  refine x_callVv 11 C dX10_reckon_8 X hl kl_X10_186 (c_X5_copy E.2.1 D T (h 49) (h 45)  m_out_a m_out_b m_one_a m_one_b y8 hy8) rfl rfl [] rfl rfl rfl rfl rfl cb_56 rfl (fun H locs X => ?_)
  refine x_iload_n 12 C dX10_reckon_11 hl 1 rfl rfl ?_
  refine kx_sw hf (fun hs0 hf => ?_) (fun hs0 hf => ?_)
  · refine x_table (off := 36) 48 C dX10_reckon_12 (0 : Int32) hs0 (by decide) (by decide) (by decide) rfl ?_
    refine x_aload_n 49 C dX10_reckon_48 hl 0 rfl rfl ?_
    refine x_get 52 C dX10_reckon_49 X kf_X10_83 0 rfl rfl rfl ?_
    refine x_aload_n 53 C dX10_reckon_52 hl 0 rfl rfl ?_
    refine x_get 56 C dX10_reckon_53 X kf_X10_74 0 rfl rfl rfl ?_
    obtain ⟨y56, hy56, hf⟩ := kx_bind hf
    refine x_callVv 59 C dX10_reckon_56 X hl kl_X10_190 (c_X5_add E.2.1 D T (h 49) (h 46)  y8.1 y8.2 m_two_a m_two_b y56 hy56) rfl rfl [] rfl rfl rfl rfl rfl cb_57 rfl (fun H locs X => ?_)
    refine x_goto 184 C dX10_reckon_59 rfl ?_
    obtain rfl := Option.some.inj hf
    exact R _ _ _ _ X dX10_reckon_184
  refine kx_sw hf (fun hs1 hf => ?_) (fun hs1 hf => ?_)
  · refine x_table (off := 50) 62 C dX10_reckon_12 (1 : Int32) hs1 (by decide) (by decide) (by decide) rfl ?_
    refine x_aload_n 63 C dX10_reckon_62 hl 0 rfl rfl ?_
    refine x_get 66 C dX10_reckon_63 X kf_X10_83 0 rfl rfl rfl ?_
    refine x_aload_n 67 C dX10_reckon_66 hl 0 rfl rfl ?_
    refine x_get 70 C dX10_reckon_67 X kf_X10_74 0 rfl rfl rfl ?_
    obtain ⟨y70, hy70, hf⟩ := kx_bind hf
    refine x_callVv 73 C dX10_reckon_70 X hl kl_X10_193 (c_X5_subtract E.2.1 D T (h 49) (h 46)  y8.1 y8.2 m_two_a m_two_b y70 hy70) rfl rfl [] rfl rfl rfl rfl rfl cb_57 rfl (fun H locs X => ?_)
    refine x_goto 184 C dX10_reckon_73 rfl ?_
    obtain rfl := Option.some.inj hf
    exact R _ _ _ _ X dX10_reckon_184
  refine kx_sw hf (fun hs2 hf => ?_) (fun hs2 hf => ?_)
  · refine x_table (off := 64) 76 C dX10_reckon_12 (2 : Int32) hs2 (by decide) (by decide) (by decide) rfl ?_
    refine x_aload_n 77 C dX10_reckon_76 hl 0 rfl rfl ?_
    refine x_get 80 C dX10_reckon_77 X kf_X10_83 0 rfl rfl rfl ?_
    refine x_aload_n 81 C dX10_reckon_80 hl 0 rfl rfl ?_
    refine x_get 84 C dX10_reckon_81 X kf_X10_74 0 rfl rfl rfl ?_
    obtain ⟨y84, hy84, hf⟩ := kx_bind hf
    refine x_callVv 87 C dX10_reckon_84 X hl kl_X10_196 (c_X5_multiply E.2.1 D T (h 49) (h 46)  y8.1 y8.2 m_two_a m_two_b y84 hy84) rfl rfl [] rfl rfl rfl rfl rfl cb_57 rfl (fun H locs X => ?_)
    refine x_goto 184 C dX10_reckon_87 rfl ?_
    obtain rfl := Option.some.inj hf
    exact R _ _ _ _ X dX10_reckon_184
  refine kx_sw hf (fun hs3 hf => ?_) (fun hs3 hf => ?_)
  · refine x_table (off := 78) 90 C dX10_reckon_12 (3 : Int32) hs3 (by decide) (by decide) (by decide) rfl ?_
    refine x_aload_n 91 C dX10_reckon_90 hl 0 rfl rfl ?_
    refine x_get 94 C dX10_reckon_91 X kf_X10_83 0 rfl rfl rfl ?_
    refine x_aload_n 95 C dX10_reckon_94 hl 0 rfl rfl ?_
    refine x_get 98 C dX10_reckon_95 X kf_X10_70 0 rfl rfl rfl ?_
    refine x_aload_n 99 C dX10_reckon_98 hl 0 rfl rfl ?_
    refine x_get 102 C dX10_reckon_99 X kf_X10_74 0 rfl rfl rfl ?_
    obtain ⟨y102, hy102, hf⟩ := kx_bind hf
    refine x_callVv 105 C dX10_reckon_102 X hl kl_X10_199 (c_X5_becomeQuotient E.2.1 D T (h 49) (h 45) (h 46)  y8.1 y8.2 m_one_a m_one_b m_two_a m_two_b y102 hy102) rfl rfl [] rfl rfl rfl rfl rfl cb_58 rfl (fun H locs X => ?_)
    refine x_goto 184 C dX10_reckon_105 rfl ?_
    obtain rfl := Option.some.inj hf
    exact R _ _ _ _ X dX10_reckon_184
  refine kx_sw hf (fun hs4 hf => ?_) (fun hs4 hf => ?_)
  · refine x_table (off := 96) 108 C dX10_reckon_12 (4 : Int32) hs4 (by decide) (by decide) (by decide) rfl ?_
    refine x_aload_n 109 C dX10_reckon_108 hl 0 rfl rfl ?_
    refine x_get 112 C dX10_reckon_109 X kf_X10_86 0 rfl rfl rfl ?_
    refine x_aload_n 113 C dX10_reckon_112 hl 0 rfl rfl ?_
    refine x_get 116 C dX10_reckon_113 X kf_X10_70 0 rfl rfl rfl ?_
    refine x_aload_n 117 C dX10_reckon_116 hl 0 rfl rfl ?_
    refine x_get 120 C dX10_reckon_117 X kf_X10_74 0 rfl rfl rfl ?_
    obtain ⟨y120, hy120, hf⟩ := kx_bind hf
    refine x_callVv 123 C dX10_reckon_120 X hl kl_X10_199 (c_X5_becomeQuotient E.2.1 D T (h 50) (h 45) (h 46)  m_spare_a m_spare_b m_one_a m_one_b m_two_a m_two_b y120 hy120) rfl rfl [] rfl rfl rfl rfl rfl cb_59 rfl (fun H locs X => ?_)
    refine x_aload_n 124 C dX10_reckon_123 hl 0 rfl rfl ?_
    refine x_get 127 C dX10_reckon_124 X kf_X10_86 0 rfl rfl rfl ?_
    refine x_aload_n 128 C dX10_reckon_127 hl 0 rfl rfl ?_
    refine x_get 131 C dX10_reckon_128 X kf_X10_74 0 rfl rfl rfl ?_
    obtain ⟨y131, hy131, hf⟩ := kx_bind hf
    refine x_callVv 134 C dX10_reckon_131 X hl kl_X10_196 (c_X5_multiply E.2.1 D T (h 50) (h 46)  y120.1 y120.2 m_two_a m_two_b y131 hy131) rfl rfl [] rfl rfl rfl rfl rfl cb_60 rfl (fun H locs X => ?_)
    refine x_aload_n 135 C dX10_reckon_134 hl 0 rfl rfl ?_
    refine x_get 138 C dX10_reckon_135 X kf_X10_83 0 rfl rfl rfl ?_
    refine x_aload_n 139 C dX10_reckon_138 hl 0 rfl rfl ?_
    refine x_get 142 C dX10_reckon_139 X kf_X10_86 0 rfl rfl rfl ?_
    obtain ⟨y142, hy142, hf⟩ := kx_bind hf
    refine x_callVv 145 C dX10_reckon_142 X hl kl_X10_193 (c_X5_subtract E.2.1 D T (h 49) (h 50)  y8.1 y8.2 y131.1 y131.2 y142 hy142) rfl rfl [] rfl rfl rfl rfl rfl cb_61 rfl (fun H locs X => ?_)
    refine x_goto 184 C dX10_reckon_145 rfl ?_
    obtain rfl := Option.some.inj hf
    exact R _ _ _ _ X dX10_reckon_184
  refine x_tableOut 148 C dX10_reckon_12 (by have hn0 := lv_neT (a := 0) hs0 (by decide); have hn1 := lv_neT (a := 1) hs1 (by decide); have hn2 := lv_neT (a := 2) hs2 (by decide); have hn3 := lv_neT (a := 3) hs3 (by decide); have hn4 := lv_neT (a := 4) hs4 (by decide); omega) rfl ?_
  refine x_aload_n 149 C dX10_reckon_148 hl 0 rfl rfl ?_
  refine x_get 152 C dX10_reckon_149 X kf_X10_28 0 rfl rfl rfl ?_
  refine x_aload_n 153 C dX10_reckon_152 hl 0 rfl rfl ?_
  refine x_get 156 C dX10_reckon_153 X kf_X10_70 0 rfl rfl rfl ?_
  refine x_aload_n 157 C dX10_reckon_156 hl 0 rfl rfl ?_
  refine x_get 160 C dX10_reckon_157 X kf_X10_74 0 rfl rfl rfl ?_
  obtain ⟨y160, hy160, hf⟩ := kx_bind hf
  refine x_callVv 163 C dX10_reckon_160 X hl kl_X10_203 (c_X1_part E.2.1 D T (h 9) (h 10) (h 11) (h 12) (h 13) (h 14) (h 15) (h 16) (h 17) (h 18) (h 45) (h 46) N  m_euclid_count m_euclid_last_a m_euclid_last_b m_euclid_lastOfFirst_a m_euclid_lastOfFirst_b m_euclid_lastOfSecond_a m_euclid_lastOfSecond_b m_euclid_next_a m_euclid_next_b m_euclid_nextOfFirst_a m_euclid_nextOfFirst_b m_euclid_nextOfSecond_a m_euclid_nextOfSecond_b m_euclid_q_a m_euclid_q_b m_euclid_quotientA m_euclid_quotientB m_one_a m_one_b m_two_a m_two_b y160 hy160) rfl rfl [] rfl rfl rfl rfl rfl cb_62 rfl (fun H locs X => ?_)
  refine x_aload_n 164 C dX10_reckon_163 hl 0 rfl rfl ?_
  refine x_get 167 C dX10_reckon_164 X kf_X10_83 0 rfl rfl rfl ?_
  refine x_aload_n 168 C dX10_reckon_167 hl 0 rfl rfl ?_
  refine x_get 171 C dX10_reckon_168 X kf_X10_28 0 rfl rfl rfl ?_
  refine x_get 174 C dX10_reckon_171 X kf_X10_206 9 rfl rfl rfl ?_
  obtain ⟨y174, hy174, hf⟩ := kx_bind hf
  refine x_callVv 177 C dX10_reckon_174 X hl kl_X10_186 (c_X5_copy E.2.1 D T (h 49) (h 10)  y8.1 y8.2 y160.2.1 y160.2.2.1 y174 hy174) rfl rfl [] rfl rfl rfl rfl rfl cb_63 rfl (fun H locs X => ?_)
  refine x_aload_n 178 C dX10_reckon_177 hl 0 rfl rfl ?_
  refine x_get 181 C dX10_reckon_178 X kf_X10_83 0 rfl rfl rfl ?_
  obtain ⟨y181, hy181, hf⟩ := kx_bind hf
  refine x_callVv 184 C dX10_reckon_181 X hl kl_X10_209 (c_X5_makeOwn E.2.1 D T (h 49) N  y174.1 y174.2 y181 hy181) rfl rfl [] rfl rfl rfl rfl rfl cb_64 rfl (fun H locs X => ?_)
  obtain rfl := Option.some.inj hf
  exact R _ _ _ _ X dX10_reckon_184
set_option maxHeartbeats 4000000 in
set_option maxRecDepth 100000 in
theorem c_X10_storeOut (l : Launch) (D : va_G) (T : KT) (h : Nat → Nat) (v1 : Int32) (m_drawers_full m_drawers_kept : Int32) (m_drawers_partA m_drawers_partB m_drawers_keptA m_drawers_keptB m_drawers_keptFull : Nat → Int32) (m_tape_size m_tape_plain m_tape_omegas m_tape_end m_tape_place m_tape_plainTold m_tape_omegasTold : Int32) (m_tape_bytes : Nat → Int32) (m_euclid_count : Int32) (m_euclid_last_a m_euclid_last_b m_euclid_lastOfFirst_a m_euclid_lastOfFirst_b m_euclid_lastOfSecond_a m_euclid_lastOfSecond_b m_euclid_next_a m_euclid_next_b m_euclid_nextOfFirst_a m_euclid_nextOfFirst_b m_euclid_nextOfSecond_a m_euclid_nextOfSecond_b m_euclid_q_a m_euclid_q_b : Int64) (m_euclid_quotientA m_euclid_quotientB : Nat → Int64) (m_modulus_step m_modulus_width m_modulus_slant m_modulus_square_a m_modulus_square_b : Int64) (m_factors_count m_factors_threes m_factors_unit : Int32) (m_factors_primeA m_factors_primeB m_factors_norms : Nat → Int64) (m_factors_euclid_count : Int32) (m_factors_euclid_last_a m_factors_euclid_last_b m_factors_euclid_lastOfFirst_a m_factors_euclid_lastOfFirst_b m_factors_euclid_lastOfSecond_a m_factors_euclid_lastOfSecond_b m_factors_euclid_next_a m_factors_euclid_next_b m_factors_euclid_nextOfFirst_a m_factors_euclid_nextOfFirst_b m_factors_euclid_nextOfSecond_a m_factors_euclid_nextOfSecond_b m_factors_euclid_q_a m_factors_euclid_q_b : Int64) (m_factors_euclid_quotientA m_factors_euclid_quotientB : Nat → Int64) (m_factors_left_a m_factors_left_b m_factors_found_a m_factors_found_b m_factors_product_a m_factors_product_b : Int64) (m_primes_count : Int32) (m_primes_primeA m_primes_primeB : Nat → Int32) (m_primes_found_a m_primes_found_b : Int64) (m_rings_foundA m_rings_foundB m_rings_all m_rings_mostOfOneRow m_letters_count : Int32) (m_letters_bytes : Nat → Int32) (m_one_a m_one_b m_two_a m_two_b m_three_a m_three_b m_four_a m_four_b m_out_a m_out_b m_spare_a m_spare_b : Int64) (m_marks : Nat → Int32) (x : Int32 × Int32 × (Nat → Int32) × (Nat → Int32)) (hf : f_X10_storeOut v1 m_drawers_full m_drawers_partA m_drawers_partB m_out_a m_out_b = some x) : kx_MI l yX10_storeOut cX10_storeOut 2 (some .int) 2 43 D T [.ref (h 0), .int v1] (wC T h m_drawers_full m_drawers_kept m_drawers_partA m_drawers_partB m_drawers_keptA m_drawers_keptB m_drawers_keptFull m_tape_size m_tape_plain m_tape_omegas m_tape_end m_tape_place m_tape_plainTold m_tape_omegasTold m_tape_bytes m_euclid_count m_euclid_last_a m_euclid_last_b m_euclid_lastOfFirst_a m_euclid_lastOfFirst_b m_euclid_lastOfSecond_a m_euclid_lastOfSecond_b m_euclid_next_a m_euclid_next_b m_euclid_nextOfFirst_a m_euclid_nextOfFirst_b m_euclid_nextOfSecond_a m_euclid_nextOfSecond_b m_euclid_q_a m_euclid_q_b m_euclid_quotientA m_euclid_quotientB m_modulus_step m_modulus_width m_modulus_slant m_modulus_square_a m_modulus_square_b m_factors_count m_factors_threes m_factors_unit m_factors_primeA m_factors_primeB m_factors_norms m_factors_euclid_count m_factors_euclid_last_a m_factors_euclid_last_b m_factors_euclid_lastOfFirst_a m_factors_euclid_lastOfFirst_b m_factors_euclid_lastOfSecond_a m_factors_euclid_lastOfSecond_b m_factors_euclid_next_a m_factors_euclid_next_b m_factors_euclid_nextOfFirst_a m_factors_euclid_nextOfFirst_b m_factors_euclid_nextOfSecond_a m_factors_euclid_nextOfSecond_b m_factors_euclid_q_a m_factors_euclid_q_b m_factors_euclid_quotientA m_factors_euclid_quotientB m_factors_left_a m_factors_left_b m_factors_found_a m_factors_found_b m_factors_product_a m_factors_product_b m_primes_count m_primes_primeA m_primes_primeB m_primes_found_a m_primes_found_b m_rings_foundA m_rings_foundB m_rings_all m_rings_mostOfOneRow m_letters_count m_letters_bytes m_one_a m_one_b m_two_a m_two_b m_three_a m_three_b m_four_a m_four_b m_out_a m_out_b m_spare_a m_spare_b m_marks) (wC T h x.2.1 m_drawers_kept x.2.2.1 x.2.2.2 m_drawers_keptA m_drawers_keptB m_drawers_keptFull m_tape_size m_tape_plain m_tape_omegas m_tape_end m_tape_place m_tape_plainTold m_tape_omegasTold m_tape_bytes m_euclid_count m_euclid_last_a m_euclid_last_b m_euclid_lastOfFirst_a m_euclid_lastOfFirst_b m_euclid_lastOfSecond_a m_euclid_lastOfSecond_b m_euclid_next_a m_euclid_next_b m_euclid_nextOfFirst_a m_euclid_nextOfFirst_b m_euclid_nextOfSecond_a m_euclid_nextOfSecond_b m_euclid_q_a m_euclid_q_b m_euclid_quotientA m_euclid_quotientB m_modulus_step m_modulus_width m_modulus_slant m_modulus_square_a m_modulus_square_b m_factors_count m_factors_threes m_factors_unit m_factors_primeA m_factors_primeB m_factors_norms m_factors_euclid_count m_factors_euclid_last_a m_factors_euclid_last_b m_factors_euclid_lastOfFirst_a m_factors_euclid_lastOfFirst_b m_factors_euclid_lastOfSecond_a m_factors_euclid_lastOfSecond_b m_factors_euclid_next_a m_factors_euclid_next_b m_factors_euclid_nextOfFirst_a m_factors_euclid_nextOfFirst_b m_factors_euclid_nextOfSecond_a m_factors_euclid_nextOfSecond_b m_factors_euclid_q_a m_factors_euclid_q_b m_factors_euclid_quotientA m_factors_euclid_quotientB m_factors_left_a m_factors_left_b m_factors_found_a m_factors_found_b m_factors_product_a m_factors_product_b m_primes_count m_primes_primeA m_primes_primeB m_primes_found_a m_primes_found_b m_rings_foundA m_rings_foundB m_rings_all m_rings_mostOfOneRow m_letters_count m_letters_bytes m_one_a m_one_b m_two_a m_two_b m_three_a m_three_b m_four_a m_four_b m_out_a m_out_b m_spare_a m_spare_b m_marks) x.1 := by
  refine kx_ofMI RX10 rfl (plainFor_of_name (x := yX10_storeOut) kpn_X10) rfl ?_
  intro E A H ls _ C X R hl
  have hl : lv_has ls 2 [(0, .ref (h 0)), (1, .int v1)] := hl
  rw [f_X10_storeOut] at hf
  refine x_aload_n 1 C dX10_storeOut_0 hl 0 rfl rfl ?_
  refine x_get 4 C dX10_storeOut_1 X kf_X10_83 0 rfl rfl rfl ?_
  obtain ⟨y4, hy4, hf⟩ := kx_bind hf
  refine x_callVi 7 C dX10_storeOut_4 X hl kl_X10_126 (c_X5_fits E.2.1 D T (h 49)  m_out_a m_out_b y4 hy4) rfl rfl [] rfl rfl rfl rfl rfl cb_64 rfl (fun H locs X => ?_)
  refine x_if_ne 13 10 C dX10_storeOut_7 rfl rfl hf (fun hf => ?_) (fun hf => ?_)
  · refine x_aload_n 14 C dX10_storeOut_13 hl 0 rfl rfl ?_
    refine x_get 17 C dX10_storeOut_14 X kf_X10_12 0 rfl rfl rfl ?_
    refine x_iload_n 18 C dX10_storeOut_17 hl 1 rfl rfl ?_
    refine x_aload_n 19 C dX10_storeOut_18 hl 0 rfl rfl ?_
    refine x_get 22 C dX10_storeOut_19 X kf_X10_83 0 rfl rfl rfl ?_
    refine x_get 25 C dX10_storeOut_22 X kf_X10_145 49 rfl rfl rfl ?_
    refine x_l2i 26 C dX10_storeOut_25 rfl ?_
    refine x_aload_n 27 C dX10_storeOut_26 hl 0 rfl rfl ?_
    refine x_get 30 C dX10_storeOut_27 X kf_X10_83 0 rfl rfl rfl ?_
    refine x_get 33 C dX10_storeOut_30 X kf_X10_149 49 rfl rfl rfl ?_
    refine x_l2i 34 C dX10_storeOut_33 rfl ?_
    obtain ⟨y34, hy34, hf⟩ := kx_bind hf
    refine x_callVv 37 C dX10_storeOut_34 X hl kl_X10_118 (c_X0_fill E.2.1 D T (h 1) (h 2) (h 3) (h 4) (h 5) (h 6) v1 (m_out_a).toInt32 (m_out_b).toInt32 m_drawers_full m_drawers_kept m_drawers_partA m_drawers_partB y34 hy34) rfl rfl [] rfl rfl rfl rfl rfl cb_3 rfl (fun H locs X => ?_)
    refine x_aload_n 38 C dX10_storeOut_37 hl 0 rfl rfl ?_
    refine x_get 41 C dX10_storeOut_38 X kf_X10_83 0 rfl rfl rfl ?_
    obtain ⟨y41, hy41, hf⟩ := kx_bind hf
    refine x_callVl 44 C dX10_storeOut_41 X hl kl_X10_152 (c_X5_norm E.2.1 D T (h 49)  m_out_a m_out_b y41 hy41) rfl rfl [] rfl rfl rfl rfl rfl cb_64 rfl (fun H locs X => ?_)
    refine x_l2i 45 C dX10_storeOut_44 rfl ?_
    obtain rfl := Option.some.inj hf
    exact R _ _ _ _ X dX10_storeOut_45
  refine x_bipush 12 C dX10_storeOut_10 (-4 : Int32) kv_bipush_m4 rfl ?_
  obtain rfl := Option.some.inj hf
  exact R _ _ _ _ X dX10_storeOut_12
set_option maxHeartbeats 4000000 in
set_option maxRecDepth 100000 in
theorem c_X10_loadTwo (l : Launch) (D : va_G) (T : KT) (h : Nat → Nat) (v1 v2 : Int32) (m_drawers_full m_drawers_kept : Int32) (m_drawers_partA m_drawers_partB m_drawers_keptA m_drawers_keptB m_drawers_keptFull : Nat → Int32) (m_tape_size m_tape_plain m_tape_omegas m_tape_end m_tape_place m_tape_plainTold m_tape_omegasTold : Int32) (m_tape_bytes : Nat → Int32) (m_euclid_count : Int32) (m_euclid_last_a m_euclid_last_b m_euclid_lastOfFirst_a m_euclid_lastOfFirst_b m_euclid_lastOfSecond_a m_euclid_lastOfSecond_b m_euclid_next_a m_euclid_next_b m_euclid_nextOfFirst_a m_euclid_nextOfFirst_b m_euclid_nextOfSecond_a m_euclid_nextOfSecond_b m_euclid_q_a m_euclid_q_b : Int64) (m_euclid_quotientA m_euclid_quotientB : Nat → Int64) (m_modulus_step m_modulus_width m_modulus_slant m_modulus_square_a m_modulus_square_b : Int64) (m_factors_count m_factors_threes m_factors_unit : Int32) (m_factors_primeA m_factors_primeB m_factors_norms : Nat → Int64) (m_factors_euclid_count : Int32) (m_factors_euclid_last_a m_factors_euclid_last_b m_factors_euclid_lastOfFirst_a m_factors_euclid_lastOfFirst_b m_factors_euclid_lastOfSecond_a m_factors_euclid_lastOfSecond_b m_factors_euclid_next_a m_factors_euclid_next_b m_factors_euclid_nextOfFirst_a m_factors_euclid_nextOfFirst_b m_factors_euclid_nextOfSecond_a m_factors_euclid_nextOfSecond_b m_factors_euclid_q_a m_factors_euclid_q_b : Int64) (m_factors_euclid_quotientA m_factors_euclid_quotientB : Nat → Int64) (m_factors_left_a m_factors_left_b m_factors_found_a m_factors_found_b m_factors_product_a m_factors_product_b : Int64) (m_primes_count : Int32) (m_primes_primeA m_primes_primeB : Nat → Int32) (m_primes_found_a m_primes_found_b : Int64) (m_rings_foundA m_rings_foundB m_rings_all m_rings_mostOfOneRow m_letters_count : Int32) (m_letters_bytes : Nat → Int32) (m_one_a m_one_b m_two_a m_two_b m_three_a m_three_b m_four_a m_four_b m_out_a m_out_b m_spare_a m_spare_b : Int64) (m_marks : Nat → Int32) (x : Int32 × Int64 × Int64 × Int64 × Int64) (hf : f_X10_loadTwo v1 v2 m_drawers_full m_drawers_partA m_drawers_partB m_one_a m_one_b m_two_a m_two_b = some x) : kx_MI l yX10_loadTwo cX10_loadTwo 3 (some .int) 2 46 D T [.ref (h 0), .int v1, .int v2] (wC T h m_drawers_full m_drawers_kept m_drawers_partA m_drawers_partB m_drawers_keptA m_drawers_keptB m_drawers_keptFull m_tape_size m_tape_plain m_tape_omegas m_tape_end m_tape_place m_tape_plainTold m_tape_omegasTold m_tape_bytes m_euclid_count m_euclid_last_a m_euclid_last_b m_euclid_lastOfFirst_a m_euclid_lastOfFirst_b m_euclid_lastOfSecond_a m_euclid_lastOfSecond_b m_euclid_next_a m_euclid_next_b m_euclid_nextOfFirst_a m_euclid_nextOfFirst_b m_euclid_nextOfSecond_a m_euclid_nextOfSecond_b m_euclid_q_a m_euclid_q_b m_euclid_quotientA m_euclid_quotientB m_modulus_step m_modulus_width m_modulus_slant m_modulus_square_a m_modulus_square_b m_factors_count m_factors_threes m_factors_unit m_factors_primeA m_factors_primeB m_factors_norms m_factors_euclid_count m_factors_euclid_last_a m_factors_euclid_last_b m_factors_euclid_lastOfFirst_a m_factors_euclid_lastOfFirst_b m_factors_euclid_lastOfSecond_a m_factors_euclid_lastOfSecond_b m_factors_euclid_next_a m_factors_euclid_next_b m_factors_euclid_nextOfFirst_a m_factors_euclid_nextOfFirst_b m_factors_euclid_nextOfSecond_a m_factors_euclid_nextOfSecond_b m_factors_euclid_q_a m_factors_euclid_q_b m_factors_euclid_quotientA m_factors_euclid_quotientB m_factors_left_a m_factors_left_b m_factors_found_a m_factors_found_b m_factors_product_a m_factors_product_b m_primes_count m_primes_primeA m_primes_primeB m_primes_found_a m_primes_found_b m_rings_foundA m_rings_foundB m_rings_all m_rings_mostOfOneRow m_letters_count m_letters_bytes m_one_a m_one_b m_two_a m_two_b m_three_a m_three_b m_four_a m_four_b m_out_a m_out_b m_spare_a m_spare_b m_marks) (wC T h m_drawers_full m_drawers_kept m_drawers_partA m_drawers_partB m_drawers_keptA m_drawers_keptB m_drawers_keptFull m_tape_size m_tape_plain m_tape_omegas m_tape_end m_tape_place m_tape_plainTold m_tape_omegasTold m_tape_bytes m_euclid_count m_euclid_last_a m_euclid_last_b m_euclid_lastOfFirst_a m_euclid_lastOfFirst_b m_euclid_lastOfSecond_a m_euclid_lastOfSecond_b m_euclid_next_a m_euclid_next_b m_euclid_nextOfFirst_a m_euclid_nextOfFirst_b m_euclid_nextOfSecond_a m_euclid_nextOfSecond_b m_euclid_q_a m_euclid_q_b m_euclid_quotientA m_euclid_quotientB m_modulus_step m_modulus_width m_modulus_slant m_modulus_square_a m_modulus_square_b m_factors_count m_factors_threes m_factors_unit m_factors_primeA m_factors_primeB m_factors_norms m_factors_euclid_count m_factors_euclid_last_a m_factors_euclid_last_b m_factors_euclid_lastOfFirst_a m_factors_euclid_lastOfFirst_b m_factors_euclid_lastOfSecond_a m_factors_euclid_lastOfSecond_b m_factors_euclid_next_a m_factors_euclid_next_b m_factors_euclid_nextOfFirst_a m_factors_euclid_nextOfFirst_b m_factors_euclid_nextOfSecond_a m_factors_euclid_nextOfSecond_b m_factors_euclid_q_a m_factors_euclid_q_b m_factors_euclid_quotientA m_factors_euclid_quotientB m_factors_left_a m_factors_left_b m_factors_found_a m_factors_found_b m_factors_product_a m_factors_product_b m_primes_count m_primes_primeA m_primes_primeB m_primes_found_a m_primes_found_b m_rings_foundA m_rings_foundB m_rings_all m_rings_mostOfOneRow m_letters_count m_letters_bytes x.2.1 x.2.2.1 x.2.2.2.1 x.2.2.2.2 m_three_a m_three_b m_four_a m_four_b m_out_a m_out_b m_spare_a m_spare_b m_marks) x.1 := by
  refine kx_ofMI RX10 rfl (plainFor_of_name (x := yX10_loadTwo) kpn_X10) rfl ?_
  intro E A H ls _ C X R hl
  have hl : lv_has ls 3 [(0, .ref (h 0)), (1, .int v1), (2, .int v2)] := hl
  rw [f_X10_loadTwo] at hf
  refine x_iload_n 1 C dX10_loadTwo_0 hl 1 rfl rfl ?_
  obtain ⟨y1, hy1, hf⟩ := kx_bind hf
  refine x_callSi 4 C dX10_loadTwo_1 X hl kl_X10_105 (c_X0_isOne E.2.1 D T  v1  y1 hy1) [] rfl rfl rfl rfl rfl cb_2 rfl (fun H locs X => ?_)
  refine x_if_eq 14 7 C dX10_loadTwo_4 rfl rfl hf (fun hf => ?_) (fun hf => ?_)
  · refine x_iconst 15 C dX10_loadTwo_14 (-1 : Int32) kv_iconst_m1 rfl ?_
    obtain rfl := Option.some.inj hf
    exact R _ _ _ _ X dX10_loadTwo_15
  refine x_iload_n 8 C dX10_loadTwo_7 hl 2 rfl rfl ?_
  obtain ⟨y8, hy8, hf⟩ := kx_bind hf
  refine x_callSi 11 C dX10_loadTwo_8 X hl kl_X10_105 (c_X0_isOne E.2.1 D T  v2  y8 hy8) [] rfl rfl rfl rfl rfl cb_2 rfl (fun H locs X => ?_)
  refine x_if_ne 16 14 C dX10_loadTwo_11 rfl rfl hf (fun hf => ?_) (fun hf => ?_)
  · refine x_aload_n 17 C dX10_loadTwo_16 hl 0 rfl rfl ?_
    refine x_get 20 C dX10_loadTwo_17 X kf_X10_12 0 rfl rfl rfl ?_
    refine x_iload_n 21 C dX10_loadTwo_20 hl 1 rfl rfl ?_
    obtain ⟨y21, hy21, hf⟩ := kx_bind hf
    refine x_callVi 24 C dX10_loadTwo_21 X hl kl_X10_130 (c_X0_has E.2.1 D T (h 1) (h 2) (h 3) (h 4) (h 5) (h 6) v1 m_drawers_full m_drawers_kept y21 hy21) rfl rfl [] rfl rfl rfl rfl rfl cb_9 rfl (fun H locs X => ?_)
    refine x_if_eq 38 27 C dX10_loadTwo_24 rfl rfl hf (fun hf => ?_) (fun hf => ?_)
    · refine x_bipush 40 C dX10_loadTwo_38 (-2 : Int32) kv_bipush_m2 rfl ?_
      obtain rfl := Option.some.inj hf
      exact R _ _ _ _ X dX10_loadTwo_40
    refine x_aload_n 28 C dX10_loadTwo_27 hl 0 rfl rfl ?_
    refine x_get 31 C dX10_loadTwo_28 X kf_X10_12 0 rfl rfl rfl ?_
    refine x_iload_n 32 C dX10_loadTwo_31 hl 2 rfl rfl ?_
    obtain ⟨y32, hy32, hf⟩ := kx_bind hf
    refine x_callVi 35 C dX10_loadTwo_32 X hl kl_X10_130 (c_X0_has E.2.1 D T (h 1) (h 2) (h 3) (h 4) (h 5) (h 6) v2 m_drawers_full m_drawers_kept y32 hy32) rfl rfl [] rfl rfl rfl rfl rfl cb_9 rfl (fun H locs X => ?_)
    refine x_if_ne 41 38 C dX10_loadTwo_35 rfl rfl hf (fun hf => ?_) (fun hf => ?_)
    · refine x_aload_n 42 C dX10_loadTwo_41 hl 0 rfl rfl ?_
      refine x_get 45 C dX10_loadTwo_42 X kf_X10_12 0 rfl rfl rfl ?_
      refine x_iload_n 46 C dX10_loadTwo_45 hl 1 rfl rfl ?_
      refine x_aload_n 47 C dX10_loadTwo_46 hl 0 rfl rfl ?_
      refine x_get 50 C dX10_loadTwo_47 X kf_X10_70 0 rfl rfl rfl ?_
      obtain ⟨y50, hy50, hf⟩ := kx_bind hf
      refine x_callVv 53 C dX10_loadTwo_50 X hl kl_X10_141 (c_X0_load E.2.1 D T (h 1) (h 2) (h 3) (h 4) (h 5) (h 6) (h 45) v1 m_drawers_full m_drawers_kept m_drawers_partA m_drawers_partB m_one_a m_one_b y50 hy50) rfl rfl [] rfl rfl rfl rfl rfl cb_11 rfl (fun H locs X => ?_)
      refine x_aload_n 54 C dX10_loadTwo_53 hl 0 rfl rfl ?_
      refine x_get 57 C dX10_loadTwo_54 X kf_X10_12 0 rfl rfl rfl ?_
      refine x_iload_n 58 C dX10_loadTwo_57 hl 2 rfl rfl ?_
      refine x_aload_n 59 C dX10_loadTwo_58 hl 0 rfl rfl ?_
      refine x_get 62 C dX10_loadTwo_59 X kf_X10_74 0 rfl rfl rfl ?_
      obtain ⟨y62, hy62, hf⟩ := kx_bind hf
      refine x_callVv 65 C dX10_loadTwo_62 X hl kl_X10_141 (c_X0_load E.2.1 D T (h 1) (h 2) (h 3) (h 4) (h 5) (h 6) (h 46) v2 m_drawers_full m_drawers_kept m_drawers_partA m_drawers_partB m_two_a m_two_b y62 hy62) rfl rfl [] rfl rfl rfl rfl rfl cb_65 rfl (fun H locs X => ?_)
      refine x_iconst 66 C dX10_loadTwo_65 (0 : Int32) kv_iconst_0 rfl ?_
      obtain rfl := Option.some.inj hf
      exact R _ _ _ _ X dX10_loadTwo_66
    refine x_bipush 40 C dX10_loadTwo_38 (-2 : Int32) kv_bipush_m2 rfl ?_
    obtain rfl := Option.some.inj hf
    exact R _ _ _ _ X dX10_loadTwo_40
  refine x_iconst 15 C dX10_loadTwo_14 (-1 : Int32) kv_iconst_m1 rfl ?_
  obtain rfl := Option.some.inj hf
  exact R _ _ _ _ X dX10_loadTwo_15
set_option maxHeartbeats 4000000 in
set_option maxRecDepth 100000 in
theorem w_X10_work_96 {E : KE} {A : Nat → Prop} {D : va_G} {T : KT} (h : Nat → Nat) (C : kx_C E cX10_work 8 (some .int) RX10 5 109 D T) (N : Nat) (x : Int32 × Int32 × (Nat → Int32) × (Nat → Int32) × Int32 × Int64 × Int64 × Int64 × Int64 × Int64 × Int64 × Int64 × Int64 × Int64 × Int64 × Int64 × Int64 × Int64 × Int64 × (Nat → Int64) × (Nat → Int64) × Int64 × Int64 × Int64 × Int64 × Int64 × Int64 × Int64 × Int64) (m_drawers_kept : Int32) (m_drawers_keptA m_drawers_keptB m_drawers_keptFull : Nat → Int32) (m_tape_size m_tape_plain m_tape_omegas m_tape_end m_tape_place m_tape_plainTold m_tape_omegasTold : Int32) (m_tape_bytes : Nat → Int32) (m_modulus_step m_modulus_width m_modulus_slant m_modulus_square_a m_modulus_square_b : Int64) (m_factors_count m_factors_threes m_factors_unit : Int32) (m_factors_primeA m_factors_primeB m_factors_norms : Nat → Int64) (m_factors_euclid_count : Int32) (m_factors_euclid_last_a m_factors_euclid_last_b m_factors_euclid_lastOfFirst_a m_factors_euclid_lastOfFirst_b m_factors_euclid_lastOfSecond_a m_factors_euclid_lastOfSecond_b m_factors_euclid_next_a m_factors_euclid_next_b m_factors_euclid_nextOfFirst_a m_factors_euclid_nextOfFirst_b m_factors_euclid_nextOfSecond_a m_factors_euclid_nextOfSecond_b m_factors_euclid_q_a m_factors_euclid_q_b : Int64) (m_factors_euclid_quotientA m_factors_euclid_quotientB : Nat → Int64) (m_factors_left_a m_factors_left_b m_factors_found_a m_factors_found_b m_factors_product_a m_factors_product_b : Int64) (m_primes_count : Int32) (m_primes_primeA m_primes_primeB : Nat → Int32) (m_primes_found_a m_primes_found_b : Int64) (m_rings_foundA m_rings_foundB m_rings_all m_rings_mostOfOneRow m_letters_count : Int32) (m_letters_bytes : Nat → Int32) (m_three_a m_three_b m_four_a m_four_b : Int64) (m_marks : Nat → Int32) (R : kx_RI E cX10_work D A (wC T h x.2.1 m_drawers_kept x.2.2.1 x.2.2.2.1 m_drawers_keptA m_drawers_keptB m_drawers_keptFull m_tape_size m_tape_plain m_tape_omegas m_tape_end m_tape_place m_tape_plainTold m_tape_omegasTold m_tape_bytes x.2.2.2.2.1 x.2.2.2.2.2.1 x.2.2.2.2.2.2.1 x.2.2.2.2.2.2.2.1 x.2.2.2.2.2.2.2.2.1 x.2.2.2.2.2.2.2.2.2.1 x.2.2.2.2.2.2.2.2.2.2.1 x.2.2.2.2.2.2.2.2.2.2.2.1 x.2.2.2.2.2.2.2.2.2.2.2.2.1 x.2.2.2.2.2.2.2.2.2.2.2.2.2.1 x.2.2.2.2.2.2.2.2.2.2.2.2.2.2.1 x.2.2.2.2.2.2.2.2.2.2.2.2.2.2.2.1 x.2.2.2.2.2.2.2.2.2.2.2.2.2.2.2.2.1 x.2.2.2.2.2.2.2.2.2.2.2.2.2.2.2.2.2.1 x.2.2.2.2.2.2.2.2.2.2.2.2.2.2.2.2.2.2.1 x.2.2.2.2.2.2.2.2.2.2.2.2.2.2.2.2.2.2.2.1 x.2.2.2.2.2.2.2.2.2.2.2.2.2.2.2.2.2.2.2.2.1 m_modulus_step m_modulus_width m_modulus_slant m_modulus_square_a m_modulus_square_b m_factors_count m_factors_threes m_factors_unit m_factors_primeA m_factors_primeB m_factors_norms m_factors_euclid_count m_factors_euclid_last_a m_factors_euclid_last_b m_factors_euclid_lastOfFirst_a m_factors_euclid_lastOfFirst_b m_factors_euclid_lastOfSecond_a m_factors_euclid_lastOfSecond_b m_factors_euclid_next_a m_factors_euclid_next_b m_factors_euclid_nextOfFirst_a m_factors_euclid_nextOfFirst_b m_factors_euclid_nextOfSecond_a m_factors_euclid_nextOfSecond_b m_factors_euclid_q_a m_factors_euclid_q_b m_factors_euclid_quotientA m_factors_euclid_quotientB m_factors_left_a m_factors_left_b m_factors_found_a m_factors_found_b m_factors_product_a m_factors_product_b m_primes_count m_primes_primeA m_primes_primeB m_primes_found_a m_primes_found_b m_rings_foundA m_rings_foundB m_rings_all m_rings_mostOfOneRow m_letters_count m_letters_bytes x.2.2.2.2.2.2.2.2.2.2.2.2.2.2.2.2.2.2.2.2.2.1 x.2.2.2.2.2.2.2.2.2.2.2.2.2.2.2.2.2.2.2.2.2.2.1 x.2.2.2.2.2.2.2.2.2.2.2.2.2.2.2.2.2.2.2.2.2.2.2.1 x.2.2.2.2.2.2.2.2.2.2.2.2.2.2.2.2.2.2.2.2.2.2.2.2.1 m_three_a m_three_b m_four_a m_four_b x.2.2.2.2.2.2.2.2.2.2.2.2.2.2.2.2.2.2.2.2.2.2.2.2.2.1 x.2.2.2.2.2.2.2.2.2.2.2.2.2.2.2.2.2.2.2.2.2.2.2.2.2.2.1 x.2.2.2.2.2.2.2.2.2.2.2.2.2.2.2.2.2.2.2.2.2.2.2.2.2.2.2.1 x.2.2.2.2.2.2.2.2.2.2.2.2.2.2.2.2.2.2.2.2.2.2.2.2.2.2.2.2 m_marks) x.1) : ∀ (m_drawers_full : Int32) (m_drawers_partA m_drawers_partB : Nat → Int32) (m_euclid_count : Int32) (m_euclid_last_a m_euclid_last_b m_euclid_lastOfFirst_a m_euclid_lastOfFirst_b m_euclid_lastOfSecond_a m_euclid_lastOfSecond_b m_euclid_next_a m_euclid_next_b m_euclid_nextOfFirst_a m_euclid_nextOfFirst_b m_euclid_nextOfSecond_a m_euclid_nextOfSecond_b m_euclid_q_a m_euclid_q_b : Int64) (m_euclid_quotientA m_euclid_quotientB : Nat → Int64) (m_one_a m_one_b m_two_a m_two_b m_out_a m_out_b m_spare_a m_spare_b : Int64) (v3 v4 v6 s0 : Int32) (H : Heap) (locs : List Loc) (ls : Array Slot), kx_H E D A H locs (wC T h m_drawers_full m_drawers_kept m_drawers_partA m_drawers_partB m_drawers_keptA m_drawers_keptB m_drawers_keptFull m_tape_size m_tape_plain m_tape_omegas m_tape_end m_tape_place m_tape_plainTold m_tape_omegasTold m_tape_bytes m_euclid_count m_euclid_last_a m_euclid_last_b m_euclid_lastOfFirst_a m_euclid_lastOfFirst_b m_euclid_lastOfSecond_a m_euclid_lastOfSecond_b m_euclid_next_a m_euclid_next_b m_euclid_nextOfFirst_a m_euclid_nextOfFirst_b m_euclid_nextOfSecond_a m_euclid_nextOfSecond_b m_euclid_q_a m_euclid_q_b m_euclid_quotientA m_euclid_quotientB m_modulus_step m_modulus_width m_modulus_slant m_modulus_square_a m_modulus_square_b m_factors_count m_factors_threes m_factors_unit m_factors_primeA m_factors_primeB m_factors_norms m_factors_euclid_count m_factors_euclid_last_a m_factors_euclid_last_b m_factors_euclid_lastOfFirst_a m_factors_euclid_lastOfFirst_b m_factors_euclid_lastOfSecond_a m_factors_euclid_lastOfSecond_b m_factors_euclid_next_a m_factors_euclid_next_b m_factors_euclid_nextOfFirst_a m_factors_euclid_nextOfFirst_b m_factors_euclid_nextOfSecond_a m_factors_euclid_nextOfSecond_b m_factors_euclid_q_a m_factors_euclid_q_b m_factors_euclid_quotientA m_factors_euclid_quotientB m_factors_left_a m_factors_left_b m_factors_found_a m_factors_found_b m_factors_product_a m_factors_product_b m_primes_count m_primes_primeA m_primes_primeB m_primes_found_a m_primes_found_b m_rings_foundA m_rings_foundB m_rings_all m_rings_mostOfOneRow m_letters_count m_letters_bytes m_one_a m_one_b m_two_a m_two_b m_three_a m_three_b m_four_a m_four_b m_out_a m_out_b m_spare_a m_spare_b m_marks) → lv_has ls 8 [(0, .ref (h 0)), (3, .int v3), (4, .int v4), (6, .int v6)] → f_X10_work_96 N v3 v4 v6 s0 m_drawers_full m_drawers_partA m_drawers_partB m_euclid_count m_euclid_last_a m_euclid_last_b m_euclid_lastOfFirst_a m_euclid_lastOfFirst_b m_euclid_lastOfSecond_a m_euclid_lastOfSecond_b m_euclid_next_a m_euclid_next_b m_euclid_nextOfFirst_a m_euclid_nextOfFirst_b m_euclid_nextOfSecond_a m_euclid_nextOfSecond_b m_euclid_q_a m_euclid_q_b m_euclid_quotientA m_euclid_quotientB m_one_a m_one_b m_two_a m_two_b m_out_a m_out_b m_spare_a m_spare_b = some x → kx_W E H locs 96 ls [.int s0] := by
  intro m_drawers_full m_drawers_partA m_drawers_partB m_euclid_count m_euclid_last_a m_euclid_last_b m_euclid_lastOfFirst_a m_euclid_lastOfFirst_b m_euclid_lastOfSecond_a m_euclid_lastOfSecond_b m_euclid_next_a m_euclid_next_b m_euclid_nextOfFirst_a m_euclid_nextOfFirst_b m_euclid_nextOfSecond_a m_euclid_nextOfSecond_b m_euclid_q_a m_euclid_q_b m_euclid_quotientA m_euclid_quotientB m_one_a m_one_b m_two_a m_two_b m_out_a m_out_b m_spare_a m_spare_b v3 v4 v6 s0 H locs ls X hl hf
  rw [f_X10_work_96] at hf
  refine x_istore 98 C dX10_work_96 [(7, .int s0), (0, .ref (h 0)), (3, .int v3), (4, .int v4), (6, .int v6)] hl rfl rfl rfl (fun ls hl => ?_)
  refine x_iload 100 C dX10_work_98 hl 4 rfl rfl ?_
  refine x_if_ne 108 103 C dX10_work_100 rfl rfl hf (fun hf => ?_) (fun hf => ?_)
  · refine x_bipush 110 C dX10_work_108 (-3 : Int32) kv_bipush_m3 rfl ?_
    obtain rfl := Option.some.inj hf
    exact R _ _ _ _ X dX10_work_110
  refine x_iload 105 C dX10_work_103 hl 0 rfl rfl ?_
  refine x_if_eq 111 108 C dX10_work_105 rfl rfl hf (fun hf => ?_) (fun hf => ?_)
  · refine x_aload_n 112 C dX10_work_111 hl 1 rfl rfl ?_
    refine x_iload 114 C dX10_work_112 hl 3 rfl rfl ?_
    obtain ⟨y114, hy114, hf⟩ := kx_bind hf
    refine x_callVv0 117 C dX10_work_114 X hl kl_X10_180 (c_X10_reckon E.2.1 D T h N v4 m_drawers_full m_drawers_kept m_drawers_partA m_drawers_partB m_drawers_keptA m_drawers_keptB m_drawers_keptFull m_tape_size m_tape_plain m_tape_omegas m_tape_end m_tape_place m_tape_plainTold m_tape_omegasTold m_tape_bytes m_euclid_count m_euclid_last_a m_euclid_last_b m_euclid_lastOfFirst_a m_euclid_lastOfFirst_b m_euclid_lastOfSecond_a m_euclid_lastOfSecond_b m_euclid_next_a m_euclid_next_b m_euclid_nextOfFirst_a m_euclid_nextOfFirst_b m_euclid_nextOfSecond_a m_euclid_nextOfSecond_b m_euclid_q_a m_euclid_q_b m_euclid_quotientA m_euclid_quotientB m_modulus_step m_modulus_width m_modulus_slant m_modulus_square_a m_modulus_square_b m_factors_count m_factors_threes m_factors_unit m_factors_primeA m_factors_primeB m_factors_norms m_factors_euclid_count m_factors_euclid_last_a m_factors_euclid_last_b m_factors_euclid_lastOfFirst_a m_factors_euclid_lastOfFirst_b m_factors_euclid_lastOfSecond_a m_factors_euclid_lastOfSecond_b m_factors_euclid_next_a m_factors_euclid_next_b m_factors_euclid_nextOfFirst_a m_factors_euclid_nextOfFirst_b m_factors_euclid_nextOfSecond_a m_factors_euclid_nextOfSecond_b m_factors_euclid_q_a m_factors_euclid_q_b m_factors_euclid_quotientA m_factors_euclid_quotientB m_factors_left_a m_factors_left_b m_factors_found_a m_factors_found_b m_factors_product_a m_factors_product_b m_primes_count m_primes_primeA m_primes_primeB m_primes_found_a m_primes_found_b m_rings_foundA m_rings_foundB m_rings_all m_rings_mostOfOneRow m_letters_count m_letters_bytes m_one_a m_one_b m_two_a m_two_b m_three_a m_three_b m_four_a m_four_b m_out_a m_out_b m_spare_a m_spare_b m_marks y114 hy114) rfl rfl [] rfl rfl rfl rfl rfl rfl (fun H locs X => ?_)
    refine x_aload_n 118 C dX10_work_117 hl 1 rfl rfl ?_
    refine x_iload_n 119 C dX10_work_118 hl 2 rfl rfl ?_
    obtain ⟨y119, hy119, hf⟩ := kx_bind hf
    refine x_callVi0 122 C dX10_work_119 X hl kl_X10_183 (c_X10_storeOut E.2.1 D T h v3 m_drawers_full m_drawers_kept m_drawers_partA m_drawers_partB m_drawers_keptA m_drawers_keptB m_drawers_keptFull m_tape_size m_tape_plain m_tape_omegas m_tape_end m_tape_place m_tape_plainTold m_tape_omegasTold m_tape_bytes y114.1 y114.2.1 y114.2.2.1 y114.2.2.2.1 y114.2.2.2.2.1 y114.2.2.2.2.2.1 y114.2.2.2.2.2.2.1 y114.2.2.2.2.2.2.2.1 y114.2.2.2.2.2.2.2.2.1 y114.2.2.2.2.2.2.2.2.2.1 y114.2.2.2.2.2.2.2.2.2.2.1 y114.2.2.2.2.2.2.2.2.2.2.2.1 y114.2.2.2.2.2.2.2.2.2.2.2.2.1 y114.2.2.2.2.2.2.2.2.2.2.2.2.2.1 y114.2.2.2.2.2.2.2.2.2.2.2.2.2.2.1 y114.2.2.2.2.2.2.2.2.2.2.2.2.2.2.2.1 y114.2.2.2.2.2.2.2.2.2.2.2.2.2.2.2.2.1 m_modulus_step m_modulus_width m_modulus_slant m_modulus_square_a m_modulus_square_b m_factors_count m_factors_threes m_factors_unit m_factors_primeA m_factors_primeB m_factors_norms m_factors_euclid_count m_factors_euclid_last_a m_factors_euclid_last_b m_factors_euclid_lastOfFirst_a m_factors_euclid_lastOfFirst_b m_factors_euclid_lastOfSecond_a m_factors_euclid_lastOfSecond_b m_factors_euclid_next_a m_factors_euclid_next_b m_factors_euclid_nextOfFirst_a m_factors_euclid_nextOfFirst_b m_factors_euclid_nextOfSecond_a m_factors_euclid_nextOfSecond_b m_factors_euclid_q_a m_factors_euclid_q_b m_factors_euclid_quotientA m_factors_euclid_quotientB m_factors_left_a m_factors_left_b m_factors_found_a m_factors_found_b m_factors_product_a m_factors_product_b m_primes_count m_primes_primeA m_primes_primeB m_primes_found_a m_primes_found_b m_rings_foundA m_rings_foundB m_rings_all m_rings_mostOfOneRow m_letters_count m_letters_bytes m_one_a m_one_b m_two_a m_two_b m_three_a m_three_b m_four_a m_four_b y114.2.2.2.2.2.2.2.2.2.2.2.2.2.2.2.2.2.1 y114.2.2.2.2.2.2.2.2.2.2.2.2.2.2.2.2.2.2.1 y114.2.2.2.2.2.2.2.2.2.2.2.2.2.2.2.2.2.2.2.1 y114.2.2.2.2.2.2.2.2.2.2.2.2.2.2.2.2.2.2.2.2 m_marks y119 hy119) rfl rfl [] rfl rfl rfl rfl rfl rfl (fun H locs X => ?_)
    obtain rfl := Option.some.inj hf
    exact R _ _ _ _ X dX10_work_122
  refine x_bipush 110 C dX10_work_108 (-3 : Int32) kv_bipush_m3 rfl ?_
  obtain rfl := Option.some.inj hf
  exact R _ _ _ _ X dX10_work_110
set_option maxHeartbeats 4000000 in
set_option maxRecDepth 100000 in
theorem w_X10_work_63 {E : KE} {A : Nat → Prop} {D : va_G} {T : KT} (h : Nat → Nat) (C : kx_C E cX10_work 8 (some .int) RX10 5 109 D T) (N : Nat) (x : Int32 × Int32 × (Nat → Int32) × (Nat → Int32) × Int32 × Int64 × Int64 × Int64 × Int64 × Int64 × Int64 × Int64 × Int64 × Int64 × Int64 × Int64 × Int64 × Int64 × Int64 × (Nat → Int64) × (Nat → Int64) × Int64 × Int64 × Int64 × Int64 × Int64 × Int64 × Int64 × Int64) (m_drawers_kept : Int32) (m_drawers_keptA m_drawers_keptB m_drawers_keptFull : Nat → Int32) (m_tape_size m_tape_plain m_tape_omegas m_tape_end m_tape_place m_tape_plainTold m_tape_omegasTold : Int32) (m_tape_bytes : Nat → Int32) (m_modulus_step m_modulus_width m_modulus_slant m_modulus_square_a m_modulus_square_b : Int64) (m_factors_count m_factors_threes m_factors_unit : Int32) (m_factors_primeA m_factors_primeB m_factors_norms : Nat → Int64) (m_factors_euclid_count : Int32) (m_factors_euclid_last_a m_factors_euclid_last_b m_factors_euclid_lastOfFirst_a m_factors_euclid_lastOfFirst_b m_factors_euclid_lastOfSecond_a m_factors_euclid_lastOfSecond_b m_factors_euclid_next_a m_factors_euclid_next_b m_factors_euclid_nextOfFirst_a m_factors_euclid_nextOfFirst_b m_factors_euclid_nextOfSecond_a m_factors_euclid_nextOfSecond_b m_factors_euclid_q_a m_factors_euclid_q_b : Int64) (m_factors_euclid_quotientA m_factors_euclid_quotientB : Nat → Int64) (m_factors_left_a m_factors_left_b m_factors_found_a m_factors_found_b m_factors_product_a m_factors_product_b : Int64) (m_primes_count : Int32) (m_primes_primeA m_primes_primeB : Nat → Int32) (m_primes_found_a m_primes_found_b : Int64) (m_rings_foundA m_rings_foundB m_rings_all m_rings_mostOfOneRow m_letters_count : Int32) (m_letters_bytes : Nat → Int32) (m_three_a m_three_b m_four_a m_four_b : Int64) (m_marks : Nat → Int32) (R : kx_RI E cX10_work D A (wC T h x.2.1 m_drawers_kept x.2.2.1 x.2.2.2.1 m_drawers_keptA m_drawers_keptB m_drawers_keptFull m_tape_size m_tape_plain m_tape_omegas m_tape_end m_tape_place m_tape_plainTold m_tape_omegasTold m_tape_bytes x.2.2.2.2.1 x.2.2.2.2.2.1 x.2.2.2.2.2.2.1 x.2.2.2.2.2.2.2.1 x.2.2.2.2.2.2.2.2.1 x.2.2.2.2.2.2.2.2.2.1 x.2.2.2.2.2.2.2.2.2.2.1 x.2.2.2.2.2.2.2.2.2.2.2.1 x.2.2.2.2.2.2.2.2.2.2.2.2.1 x.2.2.2.2.2.2.2.2.2.2.2.2.2.1 x.2.2.2.2.2.2.2.2.2.2.2.2.2.2.1 x.2.2.2.2.2.2.2.2.2.2.2.2.2.2.2.1 x.2.2.2.2.2.2.2.2.2.2.2.2.2.2.2.2.1 x.2.2.2.2.2.2.2.2.2.2.2.2.2.2.2.2.2.1 x.2.2.2.2.2.2.2.2.2.2.2.2.2.2.2.2.2.2.1 x.2.2.2.2.2.2.2.2.2.2.2.2.2.2.2.2.2.2.2.1 x.2.2.2.2.2.2.2.2.2.2.2.2.2.2.2.2.2.2.2.2.1 m_modulus_step m_modulus_width m_modulus_slant m_modulus_square_a m_modulus_square_b m_factors_count m_factors_threes m_factors_unit m_factors_primeA m_factors_primeB m_factors_norms m_factors_euclid_count m_factors_euclid_last_a m_factors_euclid_last_b m_factors_euclid_lastOfFirst_a m_factors_euclid_lastOfFirst_b m_factors_euclid_lastOfSecond_a m_factors_euclid_lastOfSecond_b m_factors_euclid_next_a m_factors_euclid_next_b m_factors_euclid_nextOfFirst_a m_factors_euclid_nextOfFirst_b m_factors_euclid_nextOfSecond_a m_factors_euclid_nextOfSecond_b m_factors_euclid_q_a m_factors_euclid_q_b m_factors_euclid_quotientA m_factors_euclid_quotientB m_factors_left_a m_factors_left_b m_factors_found_a m_factors_found_b m_factors_product_a m_factors_product_b m_primes_count m_primes_primeA m_primes_primeB m_primes_found_a m_primes_found_b m_rings_foundA m_rings_foundB m_rings_all m_rings_mostOfOneRow m_letters_count m_letters_bytes x.2.2.2.2.2.2.2.2.2.2.2.2.2.2.2.2.2.2.2.2.2.1 x.2.2.2.2.2.2.2.2.2.2.2.2.2.2.2.2.2.2.2.2.2.2.1 x.2.2.2.2.2.2.2.2.2.2.2.2.2.2.2.2.2.2.2.2.2.2.2.1 x.2.2.2.2.2.2.2.2.2.2.2.2.2.2.2.2.2.2.2.2.2.2.2.2.1 m_three_a m_three_b m_four_a m_four_b x.2.2.2.2.2.2.2.2.2.2.2.2.2.2.2.2.2.2.2.2.2.2.2.2.2.1 x.2.2.2.2.2.2.2.2.2.2.2.2.2.2.2.2.2.2.2.2.2.2.2.2.2.2.1 x.2.2.2.2.2.2.2.2.2.2.2.2.2.2.2.2.2.2.2.2.2.2.2.2.2.2.2.1 x.2.2.2.2.2.2.2.2.2.2.2.2.2.2.2.2.2.2.2.2.2.2.2.2.2.2.2.2 m_marks) x.1) : ∀ (m_drawers_full : Int32) (m_drawers_partA m_drawers_partB : Nat → Int32) (m_euclid_count : Int32) (m_euclid_last_a m_euclid_last_b m_euclid_lastOfFirst_a m_euclid_lastOfFirst_b m_euclid_lastOfSecond_a m_euclid_lastOfSecond_b m_euclid_next_a m_euclid_next_b m_euclid_nextOfFirst_a m_euclid_nextOfFirst_b m_euclid_nextOfSecond_a m_euclid_nextOfSecond_b m_euclid_q_a m_euclid_q_b : Int64) (m_euclid_quotientA m_euclid_quotientB : Nat → Int64) (m_one_a m_one_b m_two_a m_two_b m_out_a m_out_b m_spare_a m_spare_b : Int64) (v3 v4 s0 : Int32) (H : Heap) (locs : List Loc) (ls : Array Slot), kx_H E D A H locs (wC T h m_drawers_full m_drawers_kept m_drawers_partA m_drawers_partB m_drawers_keptA m_drawers_keptB m_drawers_keptFull m_tape_size m_tape_plain m_tape_omegas m_tape_end m_tape_place m_tape_plainTold m_tape_omegasTold m_tape_bytes m_euclid_count m_euclid_last_a m_euclid_last_b m_euclid_lastOfFirst_a m_euclid_lastOfFirst_b m_euclid_lastOfSecond_a m_euclid_lastOfSecond_b m_euclid_next_a m_euclid_next_b m_euclid_nextOfFirst_a m_euclid_nextOfFirst_b m_euclid_nextOfSecond_a m_euclid_nextOfSecond_b m_euclid_q_a m_euclid_q_b m_euclid_quotientA m_euclid_quotientB m_modulus_step m_modulus_width m_modulus_slant m_modulus_square_a m_modulus_square_b m_factors_count m_factors_threes m_factors_unit m_factors_primeA m_factors_primeB m_factors_norms m_factors_euclid_count m_factors_euclid_last_a m_factors_euclid_last_b m_factors_euclid_lastOfFirst_a m_factors_euclid_lastOfFirst_b m_factors_euclid_lastOfSecond_a m_factors_euclid_lastOfSecond_b m_factors_euclid_next_a m_factors_euclid_next_b m_factors_euclid_nextOfFirst_a m_factors_euclid_nextOfFirst_b m_factors_euclid_nextOfSecond_a m_factors_euclid_nextOfSecond_b m_factors_euclid_q_a m_factors_euclid_q_b m_factors_euclid_quotientA m_factors_euclid_quotientB m_factors_left_a m_factors_left_b m_factors_found_a m_factors_found_b m_factors_product_a m_factors_product_b m_primes_count m_primes_primeA m_primes_primeB m_primes_found_a m_primes_found_b m_rings_foundA m_rings_foundB m_rings_all m_rings_mostOfOneRow m_letters_count m_letters_bytes m_one_a m_one_b m_two_a m_two_b m_three_a m_three_b m_four_a m_four_b m_out_a m_out_b m_spare_a m_spare_b m_marks) → lv_has ls 8 [(0, .ref (h 0)), (3, .int v3), (4, .int v4)] → f_X10_work_63 N v3 v4 s0 m_drawers_full m_drawers_partA m_drawers_partB m_euclid_count m_euclid_last_a m_euclid_last_b m_euclid_lastOfFirst_a m_euclid_lastOfFirst_b m_euclid_lastOfSecond_a m_euclid_lastOfSecond_b m_euclid_next_a m_euclid_next_b m_euclid_nextOfFirst_a m_euclid_nextOfFirst_b m_euclid_nextOfSecond_a m_euclid_nextOfSecond_b m_euclid_q_a m_euclid_q_b m_euclid_quotientA m_euclid_quotientB m_one_a m_one_b m_two_a m_two_b m_out_a m_out_b m_spare_a m_spare_b = some x → kx_W E H locs 63 ls [.int s0] := by
  intro m_drawers_full m_drawers_partA m_drawers_partB m_euclid_count m_euclid_last_a m_euclid_last_b m_euclid_lastOfFirst_a m_euclid_lastOfFirst_b m_euclid_lastOfSecond_a m_euclid_lastOfSecond_b m_euclid_next_a m_euclid_next_b m_euclid_nextOfFirst_a m_euclid_nextOfFirst_b m_euclid_nextOfSecond_a m_euclid_nextOfSecond_b m_euclid_q_a m_euclid_q_b m_euclid_quotientA m_euclid_quotientB m_one_a m_one_b m_two_a m_two_b m_out_a m_out_b m_spare_a m_spare_b v3 v4 s0 H locs ls X hl hf
  rw [f_X10_work_63] at hf
  refine x_istore 65 C dX10_work_63 [(6, .int s0), (0, .ref (h 0)), (3, .int v3), (4, .int v4)] hl rfl rfl rfl (fun ls hl => ?_)
  refine x_iload 67 C dX10_work_65 hl 3 rfl rfl ?_
  refine x_iconst 68 C dX10_work_67 (5 : Int32) kv_iconst_5 rfl ?_
  refine x_icmp_ne 95 71 C dX10_work_68 rfl rfl hf (fun hf => ?_) (fun hf => ?_)
  · refine x_iconst 96 C dX10_work_95 (0 : Int32) kv_iconst_0 rfl ?_
    exact w_X10_work_96 h C N x m_drawers_kept m_drawers_keptA m_drawers_keptB m_drawers_keptFull m_tape_size m_tape_plain m_tape_omegas m_tape_end m_tape_place m_tape_plainTold m_tape_omegasTold m_tape_bytes m_modulus_step m_modulus_width m_modulus_slant m_modulus_square_a m_modulus_square_b m_factors_count m_factors_threes m_factors_unit m_factors_primeA m_factors_primeB m_factors_norms m_factors_euclid_count m_factors_euclid_last_a m_factors_euclid_last_b m_factors_euclid_lastOfFirst_a m_factors_euclid_lastOfFirst_b m_factors_euclid_lastOfSecond_a m_factors_euclid_lastOfSecond_b m_factors_euclid_next_a m_factors_euclid_next_b m_factors_euclid_nextOfFirst_a m_factors_euclid_nextOfFirst_b m_factors_euclid_nextOfSecond_a m_factors_euclid_nextOfSecond_b m_factors_euclid_q_a m_factors_euclid_q_b m_factors_euclid_quotientA m_factors_euclid_quotientB m_factors_left_a m_factors_left_b m_factors_found_a m_factors_found_b m_factors_product_a m_factors_product_b m_primes_count m_primes_primeA m_primes_primeB m_primes_found_a m_primes_found_b m_rings_foundA m_rings_foundB m_rings_all m_rings_mostOfOneRow m_letters_count m_letters_bytes m_three_a m_three_b m_four_a m_four_b m_marks R  m_drawers_full m_drawers_partA m_drawers_partB m_euclid_count m_euclid_last_a m_euclid_last_b m_euclid_lastOfFirst_a m_euclid_lastOfFirst_b m_euclid_lastOfSecond_a m_euclid_lastOfSecond_b m_euclid_next_a m_euclid_next_b m_euclid_nextOfFirst_a m_euclid_nextOfFirst_b m_euclid_nextOfSecond_a m_euclid_nextOfSecond_b m_euclid_q_a m_euclid_q_b m_euclid_quotientA m_euclid_quotientB m_one_a m_one_b m_two_a m_two_b m_out_a m_out_b m_spare_a m_spare_b v3 v4 s0 (0 : Int32) _ _ _ X (lv_sub hl [1, 2, 3, 0] rfl) hf
  refine x_aload_n 72 C dX10_work_71 hl 1 rfl rfl ?_
  refine x_get 75 C dX10_work_72 X kf_X10_70 0 rfl rfl rfl ?_
  obtain ⟨y75, hy75, hf⟩ := kx_bind hf
  refine x_callVi 78 C dX10_work_75 X hl kl_X10_170 (c_X5_isNought E.2.1 D T (h 45)  m_one_a m_one_b y75 hy75) rfl rfl [] rfl rfl rfl rfl rfl cb_12 rfl (fun H locs X => ?_)
  refine x_if_eq 95 81 C dX10_work_78 rfl rfl hf (fun hf => ?_) (fun hf => ?_)
  · refine x_iconst 96 C dX10_work_95 (0 : Int32) kv_iconst_0 rfl ?_
    exact w_X10_work_96 h C N x m_drawers_kept m_drawers_keptA m_drawers_keptB m_drawers_keptFull m_tape_size m_tape_plain m_tape_omegas m_tape_end m_tape_place m_tape_plainTold m_tape_omegasTold m_tape_bytes m_modulus_step m_modulus_width m_modulus_slant m_modulus_square_a m_modulus_square_b m_factors_count m_factors_threes m_factors_unit m_factors_primeA m_factors_primeB m_factors_norms m_factors_euclid_count m_factors_euclid_last_a m_factors_euclid_last_b m_factors_euclid_lastOfFirst_a m_factors_euclid_lastOfFirst_b m_factors_euclid_lastOfSecond_a m_factors_euclid_lastOfSecond_b m_factors_euclid_next_a m_factors_euclid_next_b m_factors_euclid_nextOfFirst_a m_factors_euclid_nextOfFirst_b m_factors_euclid_nextOfSecond_a m_factors_euclid_nextOfSecond_b m_factors_euclid_q_a m_factors_euclid_q_b m_factors_euclid_quotientA m_factors_euclid_quotientB m_factors_left_a m_factors_left_b m_factors_found_a m_factors_found_b m_factors_product_a m_factors_product_b m_primes_count m_primes_primeA m_primes_primeB m_primes_found_a m_primes_found_b m_rings_foundA m_rings_foundB m_rings_all m_rings_mostOfOneRow m_letters_count m_letters_bytes m_three_a m_three_b m_four_a m_four_b m_marks R  m_drawers_full m_drawers_partA m_drawers_partB m_euclid_count m_euclid_last_a m_euclid_last_b m_euclid_lastOfFirst_a m_euclid_lastOfFirst_b m_euclid_lastOfSecond_a m_euclid_lastOfSecond_b m_euclid_next_a m_euclid_next_b m_euclid_nextOfFirst_a m_euclid_nextOfFirst_b m_euclid_nextOfSecond_a m_euclid_nextOfSecond_b m_euclid_q_a m_euclid_q_b m_euclid_quotientA m_euclid_quotientB m_one_a m_one_b m_two_a m_two_b m_out_a m_out_b m_spare_a m_spare_b v3 v4 s0 (0 : Int32) _ _ _ X (lv_sub hl [1, 2, 3, 0] rfl) hf
  refine x_aload_n 82 C dX10_work_81 hl 1 rfl rfl ?_
  refine x_get 85 C dX10_work_82 X kf_X10_74 0 rfl rfl rfl ?_
  obtain ⟨y85, hy85, hf⟩ := kx_bind hf
  refine x_callVi 88 C dX10_work_85 X hl kl_X10_170 (c_X5_isNought E.2.1 D T (h 46)  m_two_a m_two_b y85 hy85) rfl rfl [] rfl rfl rfl rfl rfl cb_55 rfl (fun H locs X => ?_)
  refine x_if_eq 95 91 C dX10_work_88 rfl rfl hf (fun hf => ?_) (fun hf => ?_)
  · refine x_iconst 96 C dX10_work_95 (0 : Int32) kv_iconst_0 rfl ?_
    exact w_X10_work_96 h C N x m_drawers_kept m_drawers_keptA m_drawers_keptB m_drawers_keptFull m_tape_size m_tape_plain m_tape_omegas m_tape_end m_tape_place m_tape_plainTold m_tape_omegasTold m_tape_bytes m_modulus_step m_modulus_width m_modulus_slant m_modulus_square_a m_modulus_square_b m_factors_count m_factors_threes m_factors_unit m_factors_primeA m_factors_primeB m_factors_norms m_factors_euclid_count m_factors_euclid_last_a m_factors_euclid_last_b m_factors_euclid_lastOfFirst_a m_factors_euclid_lastOfFirst_b m_factors_euclid_lastOfSecond_a m_factors_euclid_lastOfSecond_b m_factors_euclid_next_a m_factors_euclid_next_b m_factors_euclid_nextOfFirst_a m_factors_euclid_nextOfFirst_b m_factors_euclid_nextOfSecond_a m_factors_euclid_nextOfSecond_b m_factors_euclid_q_a m_factors_euclid_q_b m_factors_euclid_quotientA m_factors_euclid_quotientB m_factors_left_a m_factors_left_b m_factors_found_a m_factors_found_b m_factors_product_a m_factors_product_b m_primes_count m_primes_primeA m_primes_primeB m_primes_found_a m_primes_found_b m_rings_foundA m_rings_foundB m_rings_all m_rings_mostOfOneRow m_letters_count m_letters_bytes m_three_a m_three_b m_four_a m_four_b m_marks R  m_drawers_full m_drawers_partA m_drawers_partB m_euclid_count m_euclid_last_a m_euclid_last_b m_euclid_lastOfFirst_a m_euclid_lastOfFirst_b m_euclid_lastOfSecond_a m_euclid_lastOfSecond_b m_euclid_next_a m_euclid_next_b m_euclid_nextOfFirst_a m_euclid_nextOfFirst_b m_euclid_nextOfSecond_a m_euclid_nextOfSecond_b m_euclid_q_a m_euclid_q_b m_euclid_quotientA m_euclid_quotientB m_one_a m_one_b m_two_a m_two_b m_out_a m_out_b m_spare_a m_spare_b v3 v4 s0 (0 : Int32) _ _ _ X (lv_sub hl [1, 2, 3, 0] rfl) hf
  refine x_iconst 92 C dX10_work_91 (1 : Int32) kv_iconst_1 rfl ?_
  refine x_goto 96 C dX10_work_92 rfl ?_
  exact w_X10_work_96 h C N x m_drawers_kept m_drawers_keptA m_drawers_keptB m_drawers_keptFull m_tape_size m_tape_plain m_tape_omegas m_tape_end m_tape_place m_tape_plainTold m_tape_omegasTold m_tape_bytes m_modulus_step m_modulus_width m_modulus_slant m_modulus_square_a m_modulus_square_b m_factors_count m_factors_threes m_factors_unit m_factors_primeA m_factors_primeB m_factors_norms m_factors_euclid_count m_factors_euclid_last_a m_factors_euclid_last_b m_factors_euclid_lastOfFirst_a m_factors_euclid_lastOfFirst_b m_factors_euclid_lastOfSecond_a m_factors_euclid_lastOfSecond_b m_factors_euclid_next_a m_factors_euclid_next_b m_factors_euclid_nextOfFirst_a m_factors_euclid_nextOfFirst_b m_factors_euclid_nextOfSecond_a m_factors_euclid_nextOfSecond_b m_factors_euclid_q_a m_factors_euclid_q_b m_factors_euclid_quotientA m_factors_euclid_quotientB m_factors_left_a m_factors_left_b m_factors_found_a m_factors_found_b m_factors_product_a m_factors_product_b m_primes_count m_primes_primeA m_primes_primeB m_primes_found_a m_primes_found_b m_rings_foundA m_rings_foundB m_rings_all m_rings_mostOfOneRow m_letters_count m_letters_bytes m_three_a m_three_b m_four_a m_four_b m_marks R  m_drawers_full m_drawers_partA m_drawers_partB m_euclid_count m_euclid_last_a m_euclid_last_b m_euclid_lastOfFirst_a m_euclid_lastOfFirst_b m_euclid_lastOfSecond_a m_euclid_lastOfSecond_b m_euclid_next_a m_euclid_next_b m_euclid_nextOfFirst_a m_euclid_nextOfFirst_b m_euclid_nextOfSecond_a m_euclid_nextOfSecond_b m_euclid_q_a m_euclid_q_b m_euclid_quotientA m_euclid_quotientB m_one_a m_one_b m_two_a m_two_b m_out_a m_out_b m_spare_a m_spare_b v3 v4 s0 (1 : Int32) _ _ _ X (lv_sub hl [1, 2, 3, 0] rfl) hf
set_option maxHeartbeats 4000000 in
set_option maxRecDepth 100000 in
theorem w_X10_work_48 {E : KE} {A : Nat → Prop} {D : va_G} {T : KT} (h : Nat → Nat) (C : kx_C E cX10_work 8 (some .int) RX10 5 109 D T) (N : Nat) (x : Int32 × Int32 × (Nat → Int32) × (Nat → Int32) × Int32 × Int64 × Int64 × Int64 × Int64 × Int64 × Int64 × Int64 × Int64 × Int64 × Int64 × Int64 × Int64 × Int64 × Int64 × (Nat → Int64) × (Nat → Int64) × Int64 × Int64 × Int64 × Int64 × Int64 × Int64 × Int64 × Int64) (m_drawers_kept : Int32) (m_drawers_keptA m_drawers_keptB m_drawers_keptFull : Nat → Int32) (m_tape_size m_tape_plain m_tape_omegas m_tape_end m_tape_place m_tape_plainTold m_tape_omegasTold : Int32) (m_tape_bytes : Nat → Int32) (m_modulus_step m_modulus_width m_modulus_slant m_modulus_square_a m_modulus_square_b : Int64) (m_factors_count m_factors_threes m_factors_unit : Int32) (m_factors_primeA m_factors_primeB m_factors_norms : Nat → Int64) (m_factors_euclid_count : Int32) (m_factors_euclid_last_a m_factors_euclid_last_b m_factors_euclid_lastOfFirst_a m_factors_euclid_lastOfFirst_b m_factors_euclid_lastOfSecond_a m_factors_euclid_lastOfSecond_b m_factors_euclid_next_a m_factors_euclid_next_b m_factors_euclid_nextOfFirst_a m_factors_euclid_nextOfFirst_b m_factors_euclid_nextOfSecond_a m_factors_euclid_nextOfSecond_b m_factors_euclid_q_a m_factors_euclid_q_b : Int64) (m_factors_euclid_quotientA m_factors_euclid_quotientB : Nat → Int64) (m_factors_left_a m_factors_left_b m_factors_found_a m_factors_found_b m_factors_product_a m_factors_product_b : Int64) (m_primes_count : Int32) (m_primes_primeA m_primes_primeB : Nat → Int32) (m_primes_found_a m_primes_found_b : Int64) (m_rings_foundA m_rings_foundB m_rings_all m_rings_mostOfOneRow m_letters_count : Int32) (m_letters_bytes : Nat → Int32) (m_three_a m_three_b m_four_a m_four_b : Int64) (m_marks : Nat → Int32) (R : kx_RI E cX10_work D A (wC T h x.2.1 m_drawers_kept x.2.2.1 x.2.2.2.1 m_drawers_keptA m_drawers_keptB m_drawers_keptFull m_tape_size m_tape_plain m_tape_omegas m_tape_end m_tape_place m_tape_plainTold m_tape_omegasTold m_tape_bytes x.2.2.2.2.1 x.2.2.2.2.2.1 x.2.2.2.2.2.2.1 x.2.2.2.2.2.2.2.1 x.2.2.2.2.2.2.2.2.1 x.2.2.2.2.2.2.2.2.2.1 x.2.2.2.2.2.2.2.2.2.2.1 x.2.2.2.2.2.2.2.2.2.2.2.1 x.2.2.2.2.2.2.2.2.2.2.2.2.1 x.2.2.2.2.2.2.2.2.2.2.2.2.2.1 x.2.2.2.2.2.2.2.2.2.2.2.2.2.2.1 x.2.2.2.2.2.2.2.2.2.2.2.2.2.2.2.1 x.2.2.2.2.2.2.2.2.2.2.2.2.2.2.2.2.1 x.2.2.2.2.2.2.2.2.2.2.2.2.2.2.2.2.2.1 x.2.2.2.2.2.2.2.2.2.2.2.2.2.2.2.2.2.2.1 x.2.2.2.2.2.2.2.2.2.2.2.2.2.2.2.2.2.2.2.1 x.2.2.2.2.2.2.2.2.2.2.2.2.2.2.2.2.2.2.2.2.1 m_modulus_step m_modulus_width m_modulus_slant m_modulus_square_a m_modulus_square_b m_factors_count m_factors_threes m_factors_unit m_factors_primeA m_factors_primeB m_factors_norms m_factors_euclid_count m_factors_euclid_last_a m_factors_euclid_last_b m_factors_euclid_lastOfFirst_a m_factors_euclid_lastOfFirst_b m_factors_euclid_lastOfSecond_a m_factors_euclid_lastOfSecond_b m_factors_euclid_next_a m_factors_euclid_next_b m_factors_euclid_nextOfFirst_a m_factors_euclid_nextOfFirst_b m_factors_euclid_nextOfSecond_a m_factors_euclid_nextOfSecond_b m_factors_euclid_q_a m_factors_euclid_q_b m_factors_euclid_quotientA m_factors_euclid_quotientB m_factors_left_a m_factors_left_b m_factors_found_a m_factors_found_b m_factors_product_a m_factors_product_b m_primes_count m_primes_primeA m_primes_primeB m_primes_found_a m_primes_found_b m_rings_foundA m_rings_foundB m_rings_all m_rings_mostOfOneRow m_letters_count m_letters_bytes x.2.2.2.2.2.2.2.2.2.2.2.2.2.2.2.2.2.2.2.2.2.1 x.2.2.2.2.2.2.2.2.2.2.2.2.2.2.2.2.2.2.2.2.2.2.1 x.2.2.2.2.2.2.2.2.2.2.2.2.2.2.2.2.2.2.2.2.2.2.2.1 x.2.2.2.2.2.2.2.2.2.2.2.2.2.2.2.2.2.2.2.2.2.2.2.2.1 m_three_a m_three_b m_four_a m_four_b x.2.2.2.2.2.2.2.2.2.2.2.2.2.2.2.2.2.2.2.2.2.2.2.2.2.1 x.2.2.2.2.2.2.2.2.2.2.2.2.2.2.2.2.2.2.2.2.2.2.2.2.2.2.1 x.2.2.2.2.2.2.2.2.2.2.2.2.2.2.2.2.2.2.2.2.2.2.2.2.2.2.2.1 x.2.2.2.2.2.2.2.2.2.2.2.2.2.2.2.2.2.2.2.2.2.2.2.2.2.2.2.2 m_marks) x.1) : ∀ (m_drawers_full : Int32) (m_drawers_partA m_drawers_partB : Nat → Int32) (m_euclid_count : Int32) (m_euclid_last_a m_euclid_last_b m_euclid_lastOfFirst_a m_euclid_lastOfFirst_b m_euclid_lastOfSecond_a m_euclid_lastOfSecond_b m_euclid_next_a m_euclid_next_b m_euclid_nextOfFirst_a m_euclid_nextOfFirst_b m_euclid_nextOfSecond_a m_euclid_nextOfSecond_b m_euclid_q_a m_euclid_q_b : Int64) (m_euclid_quotientA m_euclid_quotientB : Nat → Int64) (m_one_a m_one_b m_two_a m_two_b m_out_a m_out_b m_spare_a m_spare_b : Int64) (v3 v4 : Int32) (H : Heap) (locs : List Loc) (ls : Array Slot), kx_H E D A H locs (wC T h m_drawers_full m_drawers_kept m_drawers_partA m_drawers_partB m_drawers_keptA m_drawers_keptB m_drawers_keptFull m_tape_size m_tape_plain m_tape_omegas m_tape_end m_tape_place m_tape_plainTold m_tape_omegasTold m_tape_bytes m_euclid_count m_euclid_last_a m_euclid_last_b m_euclid_lastOfFirst_a m_euclid_lastOfFirst_b m_euclid_lastOfSecond_a m_euclid_lastOfSecond_b m_euclid_next_a m_euclid_next_b m_euclid_nextOfFirst_a m_euclid_nextOfFirst_b m_euclid_nextOfSecond_a m_euclid_nextOfSecond_b m_euclid_q_a m_euclid_q_b m_euclid_quotientA m_euclid_quotientB m_modulus_step m_modulus_width m_modulus_slant m_modulus_square_a m_modulus_square_b m_factors_count m_factors_threes m_factors_unit m_factors_primeA m_factors_primeB m_factors_norms m_factors_euclid_count m_factors_euclid_last_a m_factors_euclid_last_b m_factors_euclid_lastOfFirst_a m_factors_euclid_lastOfFirst_b m_factors_euclid_lastOfSecond_a m_factors_euclid_lastOfSecond_b m_factors_euclid_next_a m_factors_euclid_next_b m_factors_euclid_nextOfFirst_a m_factors_euclid_nextOfFirst_b m_factors_euclid_nextOfSecond_a m_factors_euclid_nextOfSecond_b m_factors_euclid_q_a m_factors_euclid_q_b m_factors_euclid_quotientA m_factors_euclid_quotientB m_factors_left_a m_factors_left_b m_factors_found_a m_factors_found_b m_factors_product_a m_factors_product_b m_primes_count m_primes_primeA m_primes_primeB m_primes_found_a m_primes_found_b m_rings_foundA m_rings_foundB m_rings_all m_rings_mostOfOneRow m_letters_count m_letters_bytes m_one_a m_one_b m_two_a m_two_b m_three_a m_three_b m_four_a m_four_b m_out_a m_out_b m_spare_a m_spare_b m_marks) → lv_has ls 8 [(0, .ref (h 0)), (3, .int v3), (4, .int v4)] → f_X10_work_48 N v3 v4 m_drawers_full m_drawers_partA m_drawers_partB m_euclid_count m_euclid_last_a m_euclid_last_b m_euclid_lastOfFirst_a m_euclid_lastOfFirst_b m_euclid_lastOfSecond_a m_euclid_lastOfSecond_b m_euclid_next_a m_euclid_next_b m_euclid_nextOfFirst_a m_euclid_nextOfFirst_b m_euclid_nextOfSecond_a m_euclid_nextOfSecond_b m_euclid_q_a m_euclid_q_b m_euclid_quotientA m_euclid_quotientB m_one_a m_one_b m_two_a m_two_b m_out_a m_out_b m_spare_a m_spare_b = some x → kx_W E H locs 48 ls [] := by
  intro m_drawers_full m_drawers_partA m_drawers_partB m_euclid_count m_euclid_last_a m_euclid_last_b m_euclid_lastOfFirst_a m_euclid_lastOfFirst_b m_euclid_lastOfSecond_a m_euclid_lastOfSecond_b m_euclid_next_a m_euclid_next_b m_euclid_nextOfFirst_a m_euclid_nextOfFirst_b m_euclid_nextOfSecond_a m_euclid_nextOfSecond_b m_euclid_q_a m_euclid_q_b m_euclid_quotientA m_euclid_quotientB m_one_a m_one_b m_two_a m_two_b m_out_a m_out_b m_spare_a m_spare_b v3 v4 H locs ls X hl hf
  rw [f_X10_work_48] at hf
  refine x_aload_n 49 C dX10_work_48 hl 0 rfl rfl ?_
  refine x_get 52 C dX10_work_49 X kf_X10_74 0 rfl rfl rfl ?_
  obtain ⟨y52, hy52, hf⟩ := kx_bind hf
  refine x_callVi 55 C dX10_work_52 X hl kl_X10_170 (c_X5_isNought E.2.1 D T (h 46)  m_two_a m_two_b y52 hy52) rfl rfl [] rfl rfl rfl rfl rfl cb_55 rfl (fun H locs X => ?_)
  refine x_if_eq 62 58 C dX10_work_55 rfl rfl hf (fun hf => ?_) (fun hf => ?_)
  · refine x_iconst 63 C dX10_work_62 (0 : Int32) kv_iconst_0 rfl ?_
    exact w_X10_work_63 h C N x m_drawers_kept m_drawers_keptA m_drawers_keptB m_drawers_keptFull m_tape_size m_tape_plain m_tape_omegas m_tape_end m_tape_place m_tape_plainTold m_tape_omegasTold m_tape_bytes m_modulus_step m_modulus_width m_modulus_slant m_modulus_square_a m_modulus_square_b m_factors_count m_factors_threes m_factors_unit m_factors_primeA m_factors_primeB m_factors_norms m_factors_euclid_count m_factors_euclid_last_a m_factors_euclid_last_b m_factors_euclid_lastOfFirst_a m_factors_euclid_lastOfFirst_b m_factors_euclid_lastOfSecond_a m_factors_euclid_lastOfSecond_b m_factors_euclid_next_a m_factors_euclid_next_b m_factors_euclid_nextOfFirst_a m_factors_euclid_nextOfFirst_b m_factors_euclid_nextOfSecond_a m_factors_euclid_nextOfSecond_b m_factors_euclid_q_a m_factors_euclid_q_b m_factors_euclid_quotientA m_factors_euclid_quotientB m_factors_left_a m_factors_left_b m_factors_found_a m_factors_found_b m_factors_product_a m_factors_product_b m_primes_count m_primes_primeA m_primes_primeB m_primes_found_a m_primes_found_b m_rings_foundA m_rings_foundB m_rings_all m_rings_mostOfOneRow m_letters_count m_letters_bytes m_three_a m_three_b m_four_a m_four_b m_marks R  m_drawers_full m_drawers_partA m_drawers_partB m_euclid_count m_euclid_last_a m_euclid_last_b m_euclid_lastOfFirst_a m_euclid_lastOfFirst_b m_euclid_lastOfSecond_a m_euclid_lastOfSecond_b m_euclid_next_a m_euclid_next_b m_euclid_nextOfFirst_a m_euclid_nextOfFirst_b m_euclid_nextOfSecond_a m_euclid_nextOfSecond_b m_euclid_q_a m_euclid_q_b m_euclid_quotientA m_euclid_quotientB m_one_a m_one_b m_two_a m_two_b m_out_a m_out_b m_spare_a m_spare_b v3 v4 (0 : Int32) _ _ _ X (lv_sub hl [0, 1, 2] rfl) hf
  refine x_iconst 59 C dX10_work_58 (1 : Int32) kv_iconst_1 rfl ?_
  refine x_goto 63 C dX10_work_59 rfl ?_
  exact w_X10_work_63 h C N x m_drawers_kept m_drawers_keptA m_drawers_keptB m_drawers_keptFull m_tape_size m_tape_plain m_tape_omegas m_tape_end m_tape_place m_tape_plainTold m_tape_omegasTold m_tape_bytes m_modulus_step m_modulus_width m_modulus_slant m_modulus_square_a m_modulus_square_b m_factors_count m_factors_threes m_factors_unit m_factors_primeA m_factors_primeB m_factors_norms m_factors_euclid_count m_factors_euclid_last_a m_factors_euclid_last_b m_factors_euclid_lastOfFirst_a m_factors_euclid_lastOfFirst_b m_factors_euclid_lastOfSecond_a m_factors_euclid_lastOfSecond_b m_factors_euclid_next_a m_factors_euclid_next_b m_factors_euclid_nextOfFirst_a m_factors_euclid_nextOfFirst_b m_factors_euclid_nextOfSecond_a m_factors_euclid_nextOfSecond_b m_factors_euclid_q_a m_factors_euclid_q_b m_factors_euclid_quotientA m_factors_euclid_quotientB m_factors_left_a m_factors_left_b m_factors_found_a m_factors_found_b m_factors_product_a m_factors_product_b m_primes_count m_primes_primeA m_primes_primeB m_primes_found_a m_primes_found_b m_rings_foundA m_rings_foundB m_rings_all m_rings_mostOfOneRow m_letters_count m_letters_bytes m_three_a m_three_b m_four_a m_four_b m_marks R  m_drawers_full m_drawers_partA m_drawers_partB m_euclid_count m_euclid_last_a m_euclid_last_b m_euclid_lastOfFirst_a m_euclid_lastOfFirst_b m_euclid_lastOfSecond_a m_euclid_lastOfSecond_b m_euclid_next_a m_euclid_next_b m_euclid_nextOfFirst_a m_euclid_nextOfFirst_b m_euclid_nextOfSecond_a m_euclid_nextOfSecond_b m_euclid_q_a m_euclid_q_b m_euclid_quotientA m_euclid_quotientB m_one_a m_one_b m_two_a m_two_b m_out_a m_out_b m_spare_a m_spare_b v3 v4 (1 : Int32) _ _ _ X (lv_sub hl [0, 1, 2] rfl) hf
set_option maxHeartbeats 4000000 in
set_option maxRecDepth 100000 in
theorem c_X10_work (l : Launch) (D : va_G) (T : KT) (h : Nat → Nat) (N : Nat) (v1 v2 v3 v4 : Int32) (m_drawers_full m_drawers_kept : Int32) (m_drawers_partA m_drawers_partB m_drawers_keptA m_drawers_keptB m_drawers_keptFull : Nat → Int32) (m_tape_size m_tape_plain m_tape_omegas m_tape_end m_tape_place m_tape_plainTold m_tape_omegasTold : Int32) (m_tape_bytes : Nat → Int32) (m_euclid_count : Int32) (m_euclid_last_a m_euclid_last_b m_euclid_lastOfFirst_a m_euclid_lastOfFirst_b m_euclid_lastOfSecond_a m_euclid_lastOfSecond_b m_euclid_next_a m_euclid_next_b m_euclid_nextOfFirst_a m_euclid_nextOfFirst_b m_euclid_nextOfSecond_a m_euclid_nextOfSecond_b m_euclid_q_a m_euclid_q_b : Int64) (m_euclid_quotientA m_euclid_quotientB : Nat → Int64) (m_modulus_step m_modulus_width m_modulus_slant m_modulus_square_a m_modulus_square_b : Int64) (m_factors_count m_factors_threes m_factors_unit : Int32) (m_factors_primeA m_factors_primeB m_factors_norms : Nat → Int64) (m_factors_euclid_count : Int32) (m_factors_euclid_last_a m_factors_euclid_last_b m_factors_euclid_lastOfFirst_a m_factors_euclid_lastOfFirst_b m_factors_euclid_lastOfSecond_a m_factors_euclid_lastOfSecond_b m_factors_euclid_next_a m_factors_euclid_next_b m_factors_euclid_nextOfFirst_a m_factors_euclid_nextOfFirst_b m_factors_euclid_nextOfSecond_a m_factors_euclid_nextOfSecond_b m_factors_euclid_q_a m_factors_euclid_q_b : Int64) (m_factors_euclid_quotientA m_factors_euclid_quotientB : Nat → Int64) (m_factors_left_a m_factors_left_b m_factors_found_a m_factors_found_b m_factors_product_a m_factors_product_b : Int64) (m_primes_count : Int32) (m_primes_primeA m_primes_primeB : Nat → Int32) (m_primes_found_a m_primes_found_b : Int64) (m_rings_foundA m_rings_foundB m_rings_all m_rings_mostOfOneRow m_letters_count : Int32) (m_letters_bytes : Nat → Int32) (m_one_a m_one_b m_two_a m_two_b m_three_a m_three_b m_four_a m_four_b m_out_a m_out_b m_spare_a m_spare_b : Int64) (m_marks : Nat → Int32) (x : Int32 × Int32 × (Nat → Int32) × (Nat → Int32) × Int32 × Int64 × Int64 × Int64 × Int64 × Int64 × Int64 × Int64 × Int64 × Int64 × Int64 × Int64 × Int64 × Int64 × Int64 × (Nat → Int64) × (Nat → Int64) × Int64 × Int64 × Int64 × Int64 × Int64 × Int64 × Int64 × Int64) (hf : f_X10_work N v1 v2 v3 v4 m_drawers_full m_drawers_partA m_drawers_partB m_euclid_count m_euclid_last_a m_euclid_last_b m_euclid_lastOfFirst_a m_euclid_lastOfFirst_b m_euclid_lastOfSecond_a m_euclid_lastOfSecond_b m_euclid_next_a m_euclid_next_b m_euclid_nextOfFirst_a m_euclid_nextOfFirst_b m_euclid_nextOfSecond_a m_euclid_nextOfSecond_b m_euclid_q_a m_euclid_q_b m_euclid_quotientA m_euclid_quotientB m_one_a m_one_b m_two_a m_two_b m_out_a m_out_b m_spare_a m_spare_b = some x) : kx_MI l yX10_work cX10_work 8 (some .int) 5 109 D T [.ref (h 0), .int v1, .int v2, .int v3, .int v4] (wC T h m_drawers_full m_drawers_kept m_drawers_partA m_drawers_partB m_drawers_keptA m_drawers_keptB m_drawers_keptFull m_tape_size m_tape_plain m_tape_omegas m_tape_end m_tape_place m_tape_plainTold m_tape_omegasTold m_tape_bytes m_euclid_count m_euclid_last_a m_euclid_last_b m_euclid_lastOfFirst_a m_euclid_lastOfFirst_b m_euclid_lastOfSecond_a m_euclid_lastOfSecond_b m_euclid_next_a m_euclid_next_b m_euclid_nextOfFirst_a m_euclid_nextOfFirst_b m_euclid_nextOfSecond_a m_euclid_nextOfSecond_b m_euclid_q_a m_euclid_q_b m_euclid_quotientA m_euclid_quotientB m_modulus_step m_modulus_width m_modulus_slant m_modulus_square_a m_modulus_square_b m_factors_count m_factors_threes m_factors_unit m_factors_primeA m_factors_primeB m_factors_norms m_factors_euclid_count m_factors_euclid_last_a m_factors_euclid_last_b m_factors_euclid_lastOfFirst_a m_factors_euclid_lastOfFirst_b m_factors_euclid_lastOfSecond_a m_factors_euclid_lastOfSecond_b m_factors_euclid_next_a m_factors_euclid_next_b m_factors_euclid_nextOfFirst_a m_factors_euclid_nextOfFirst_b m_factors_euclid_nextOfSecond_a m_factors_euclid_nextOfSecond_b m_factors_euclid_q_a m_factors_euclid_q_b m_factors_euclid_quotientA m_factors_euclid_quotientB m_factors_left_a m_factors_left_b m_factors_found_a m_factors_found_b m_factors_product_a m_factors_product_b m_primes_count m_primes_primeA m_primes_primeB m_primes_found_a m_primes_found_b m_rings_foundA m_rings_foundB m_rings_all m_rings_mostOfOneRow m_letters_count m_letters_bytes m_one_a m_one_b m_two_a m_two_b m_three_a m_three_b m_four_a m_four_b m_out_a m_out_b m_spare_a m_spare_b m_marks) (wC T h x.2.1 m_drawers_kept x.2.2.1 x.2.2.2.1 m_drawers_keptA m_drawers_keptB m_drawers_keptFull m_tape_size m_tape_plain m_tape_omegas m_tape_end m_tape_place m_tape_plainTold m_tape_omegasTold m_tape_bytes x.2.2.2.2.1 x.2.2.2.2.2.1 x.2.2.2.2.2.2.1 x.2.2.2.2.2.2.2.1 x.2.2.2.2.2.2.2.2.1 x.2.2.2.2.2.2.2.2.2.1 x.2.2.2.2.2.2.2.2.2.2.1 x.2.2.2.2.2.2.2.2.2.2.2.1 x.2.2.2.2.2.2.2.2.2.2.2.2.1 x.2.2.2.2.2.2.2.2.2.2.2.2.2.1 x.2.2.2.2.2.2.2.2.2.2.2.2.2.2.1 x.2.2.2.2.2.2.2.2.2.2.2.2.2.2.2.1 x.2.2.2.2.2.2.2.2.2.2.2.2.2.2.2.2.1 x.2.2.2.2.2.2.2.2.2.2.2.2.2.2.2.2.2.1 x.2.2.2.2.2.2.2.2.2.2.2.2.2.2.2.2.2.2.1 x.2.2.2.2.2.2.2.2.2.2.2.2.2.2.2.2.2.2.2.1 x.2.2.2.2.2.2.2.2.2.2.2.2.2.2.2.2.2.2.2.2.1 m_modulus_step m_modulus_width m_modulus_slant m_modulus_square_a m_modulus_square_b m_factors_count m_factors_threes m_factors_unit m_factors_primeA m_factors_primeB m_factors_norms m_factors_euclid_count m_factors_euclid_last_a m_factors_euclid_last_b m_factors_euclid_lastOfFirst_a m_factors_euclid_lastOfFirst_b m_factors_euclid_lastOfSecond_a m_factors_euclid_lastOfSecond_b m_factors_euclid_next_a m_factors_euclid_next_b m_factors_euclid_nextOfFirst_a m_factors_euclid_nextOfFirst_b m_factors_euclid_nextOfSecond_a m_factors_euclid_nextOfSecond_b m_factors_euclid_q_a m_factors_euclid_q_b m_factors_euclid_quotientA m_factors_euclid_quotientB m_factors_left_a m_factors_left_b m_factors_found_a m_factors_found_b m_factors_product_a m_factors_product_b m_primes_count m_primes_primeA m_primes_primeB m_primes_found_a m_primes_found_b m_rings_foundA m_rings_foundB m_rings_all m_rings_mostOfOneRow m_letters_count m_letters_bytes x.2.2.2.2.2.2.2.2.2.2.2.2.2.2.2.2.2.2.2.2.2.1 x.2.2.2.2.2.2.2.2.2.2.2.2.2.2.2.2.2.2.2.2.2.2.1 x.2.2.2.2.2.2.2.2.2.2.2.2.2.2.2.2.2.2.2.2.2.2.2.1 x.2.2.2.2.2.2.2.2.2.2.2.2.2.2.2.2.2.2.2.2.2.2.2.2.1 m_three_a m_three_b m_four_a m_four_b x.2.2.2.2.2.2.2.2.2.2.2.2.2.2.2.2.2.2.2.2.2.2.2.2.2.1 x.2.2.2.2.2.2.2.2.2.2.2.2.2.2.2.2.2.2.2.2.2.2.2.2.2.2.1 x.2.2.2.2.2.2.2.2.2.2.2.2.2.2.2.2.2.2.2.2.2.2.2.2.2.2.2.1 x.2.2.2.2.2.2.2.2.2.2.2.2.2.2.2.2.2.2.2.2.2.2.2.2.2.2.2.2 m_marks) x.1 := by
  refine kx_ofMI RX10 rfl (plainFor_of_name (x := yX10_work) kpn_X10) rfl ?_
  intro E A H ls _ C X R hl
  have hl : lv_has ls 8 [(0, .ref (h 0)), (1, .int v1), (2, .int v2), (3, .int v3), (4, .int v4)] := hl
  rw [f_X10_work] at hf
  refine x_iload_n 1 C dX10_work_0 hl 3 rfl rfl ?_
  obtain ⟨y1, hy1, hf⟩ := kx_bind hf
  refine x_callSi 4 C dX10_work_1 X hl kl_X10_105 (c_X0_isOne E.2.1 D T  v3  y1 hy1) [] rfl rfl rfl rfl rfl cb_2 rfl (fun H locs X => ?_)
  refine x_if_eq 18 7 C dX10_work_4 rfl rfl hf (fun hf => ?_) (fun hf => ?_)
  · refine x_iconst 19 C dX10_work_18 (-1 : Int32) kv_iconst_m1 rfl ?_
    obtain rfl := Option.some.inj hf
    exact R _ _ _ _ X dX10_work_19
  refine x_iload 9 C dX10_work_7 hl 4 rfl rfl ?_
  refine x_if_lt 18 12 C dX10_work_9 rfl rfl hf (fun hf => ?_) (fun hf => ?_)
  · refine x_iconst 19 C dX10_work_18 (-1 : Int32) kv_iconst_m1 rfl ?_
    obtain rfl := Option.some.inj hf
    exact R _ _ _ _ X dX10_work_19
  refine x_iload 14 C dX10_work_12 hl 4 rfl rfl ?_
  refine x_iconst 15 C dX10_work_14 (5 : Int32) kv_iconst_5 rfl ?_
  refine x_icmp_le 20 18 C dX10_work_15 rfl rfl hf (fun hf => ?_) (fun hf => ?_)
  · refine x_aload_n 21 C dX10_work_20 hl 0 rfl rfl ?_
    refine x_iload_n 22 C dX10_work_21 hl 1 rfl rfl ?_
    refine x_iload_n 23 C dX10_work_22 hl 2 rfl rfl ?_
    obtain ⟨y23, hy23, hf⟩ := kx_bind hf
    refine x_callVi0 26 C dX10_work_23 X hl kl_X10_176 (c_X10_loadTwo E.2.1 D T h v1 v2 m_drawers_full m_drawers_kept m_drawers_partA m_drawers_partB m_drawers_keptA m_drawers_keptB m_drawers_keptFull m_tape_size m_tape_plain m_tape_omegas m_tape_end m_tape_place m_tape_plainTold m_tape_omegasTold m_tape_bytes m_euclid_count m_euclid_last_a m_euclid_last_b m_euclid_lastOfFirst_a m_euclid_lastOfFirst_b m_euclid_lastOfSecond_a m_euclid_lastOfSecond_b m_euclid_next_a m_euclid_next_b m_euclid_nextOfFirst_a m_euclid_nextOfFirst_b m_euclid_nextOfSecond_a m_euclid_nextOfSecond_b m_euclid_q_a m_euclid_q_b m_euclid_quotientA m_euclid_quotientB m_modulus_step m_modulus_width m_modulus_slant m_modulus_square_a m_modulus_square_b m_factors_count m_factors_threes m_factors_unit m_factors_primeA m_factors_primeB m_factors_norms m_factors_euclid_count m_factors_euclid_last_a m_factors_euclid_last_b m_factors_euclid_lastOfFirst_a m_factors_euclid_lastOfFirst_b m_factors_euclid_lastOfSecond_a m_factors_euclid_lastOfSecond_b m_factors_euclid_next_a m_factors_euclid_next_b m_factors_euclid_nextOfFirst_a m_factors_euclid_nextOfFirst_b m_factors_euclid_nextOfSecond_a m_factors_euclid_nextOfSecond_b m_factors_euclid_q_a m_factors_euclid_q_b m_factors_euclid_quotientA m_factors_euclid_quotientB m_factors_left_a m_factors_left_b m_factors_found_a m_factors_found_b m_factors_product_a m_factors_product_b m_primes_count m_primes_primeA m_primes_primeB m_primes_found_a m_primes_found_b m_rings_foundA m_rings_foundB m_rings_all m_rings_mostOfOneRow m_letters_count m_letters_bytes m_one_a m_one_b m_two_a m_two_b m_three_a m_three_b m_four_a m_four_b m_out_a m_out_b m_spare_a m_spare_b m_marks y23 hy23) rfl rfl [] rfl rfl rfl rfl rfl rfl (fun H locs X => ?_)
    refine x_istore 28 C dX10_work_26 [(5, .int y23.1), (0, .ref (h 0)), (1, .int v1), (2, .int v2), (3, .int v3), (4, .int v4)] hl rfl rfl rfl (fun ls hl => ?_)
    refine x_iload 30 C dX10_work_28 hl 0 rfl rfl ?_
    refine x_if_eq 36 33 C dX10_work_30 rfl rfl hf (fun hf => ?_) (fun hf => ?_)
    · refine x_iload 38 C dX10_work_36 hl 5 rfl rfl ?_
      refine x_iconst 39 C dX10_work_38 (3 : Int32) kv_iconst_3 rfl ?_
      refine x_icmp_eq 48 42 C dX10_work_39 rfl rfl hf (fun hf => ?_) (fun hf => ?_)
      · exact w_X10_work_48 h C N x m_drawers_kept m_drawers_keptA m_drawers_keptB m_drawers_keptFull m_tape_size m_tape_plain m_tape_omegas m_tape_end m_tape_place m_tape_plainTold m_tape_omegasTold m_tape_bytes m_modulus_step m_modulus_width m_modulus_slant m_modulus_square_a m_modulus_square_b m_factors_count m_factors_threes m_factors_unit m_factors_primeA m_factors_primeB m_factors_norms m_factors_euclid_count m_factors_euclid_last_a m_factors_euclid_last_b m_factors_euclid_lastOfFirst_a m_factors_euclid_lastOfFirst_b m_factors_euclid_lastOfSecond_a m_factors_euclid_lastOfSecond_b m_factors_euclid_next_a m_factors_euclid_next_b m_factors_euclid_nextOfFirst_a m_factors_euclid_nextOfFirst_b m_factors_euclid_nextOfSecond_a m_factors_euclid_nextOfSecond_b m_factors_euclid_q_a m_factors_euclid_q_b m_factors_euclid_quotientA m_factors_euclid_quotientB m_factors_left_a m_factors_left_b m_factors_found_a m_factors_found_b m_factors_product_a m_factors_product_b m_primes_count m_primes_primeA m_primes_primeB m_primes_found_a m_primes_found_b m_rings_foundA m_rings_foundB m_rings_all m_rings_mostOfOneRow m_letters_count m_letters_bytes m_three_a m_three_b m_four_a m_four_b m_marks R  m_drawers_full m_drawers_partA m_drawers_partB m_euclid_count m_euclid_last_a m_euclid_last_b m_euclid_lastOfFirst_a m_euclid_lastOfFirst_b m_euclid_lastOfSecond_a m_euclid_lastOfSecond_b m_euclid_next_a m_euclid_next_b m_euclid_nextOfFirst_a m_euclid_nextOfFirst_b m_euclid_nextOfSecond_a m_euclid_nextOfSecond_b m_euclid_q_a m_euclid_q_b m_euclid_quotientA m_euclid_quotientB y23.2.1 y23.2.2.1 y23.2.2.2.1 y23.2.2.2.2 m_out_a m_out_b m_spare_a m_spare_b v3 v4 _ _ _ X (lv_sub hl [1, 4, 5] rfl) hf
      refine x_iload 44 C dX10_work_42 hl 5 rfl rfl ?_
      refine x_iconst 45 C dX10_work_44 (4 : Int32) kv_iconst_4 rfl ?_
      refine x_icmp_ne 62 48 C dX10_work_45 rfl rfl hf (fun hf => ?_) (fun hf => ?_)
      · refine x_iconst 63 C dX10_work_62 (0 : Int32) kv_iconst_0 rfl ?_
        exact w_X10_work_63 h C N x m_drawers_kept m_drawers_keptA m_drawers_keptB m_drawers_keptFull m_tape_size m_tape_plain m_tape_omegas m_tape_end m_tape_place m_tape_plainTold m_tape_omegasTold m_tape_bytes m_modulus_step m_modulus_width m_modulus_slant m_modulus_square_a m_modulus_square_b m_factors_count m_factors_threes m_factors_unit m_factors_primeA m_factors_primeB m_factors_norms m_factors_euclid_count m_factors_euclid_last_a m_factors_euclid_last_b m_factors_euclid_lastOfFirst_a m_factors_euclid_lastOfFirst_b m_factors_euclid_lastOfSecond_a m_factors_euclid_lastOfSecond_b m_factors_euclid_next_a m_factors_euclid_next_b m_factors_euclid_nextOfFirst_a m_factors_euclid_nextOfFirst_b m_factors_euclid_nextOfSecond_a m_factors_euclid_nextOfSecond_b m_factors_euclid_q_a m_factors_euclid_q_b m_factors_euclid_quotientA m_factors_euclid_quotientB m_factors_left_a m_factors_left_b m_factors_found_a m_factors_found_b m_factors_product_a m_factors_product_b m_primes_count m_primes_primeA m_primes_primeB m_primes_found_a m_primes_found_b m_rings_foundA m_rings_foundB m_rings_all m_rings_mostOfOneRow m_letters_count m_letters_bytes m_three_a m_three_b m_four_a m_four_b m_marks R  m_drawers_full m_drawers_partA m_drawers_partB m_euclid_count m_euclid_last_a m_euclid_last_b m_euclid_lastOfFirst_a m_euclid_lastOfFirst_b m_euclid_lastOfSecond_a m_euclid_lastOfSecond_b m_euclid_next_a m_euclid_next_b m_euclid_nextOfFirst_a m_euclid_nextOfFirst_b m_euclid_nextOfSecond_a m_euclid_nextOfSecond_b m_euclid_q_a m_euclid_q_b m_euclid_quotientA m_euclid_quotientB y23.2.1 y23.2.2.1 y23.2.2.2.1 y23.2.2.2.2 m_out_a m_out_b m_spare_a m_spare_b v3 v4 (0 : Int32) _ _ _ X (lv_sub hl [1, 4, 5] rfl) hf
      exact w_X10_work_48 h C N x m_drawers_kept m_drawers_keptA m_drawers_keptB m_drawers_keptFull m_tape_size m_tape_plain m_tape_omegas m_tape_end m_tape_place m_tape_plainTold m_tape_omegasTold m_tape_bytes m_modulus_step m_modulus_width m_modulus_slant m_modulus_square_a m_modulus_square_b m_factors_count m_factors_threes m_factors_unit m_factors_primeA m_factors_primeB m_factors_norms m_factors_euclid_count m_factors_euclid_last_a m_factors_euclid_last_b m_factors_euclid_lastOfFirst_a m_factors_euclid_lastOfFirst_b m_factors_euclid_lastOfSecond_a m_factors_euclid_lastOfSecond_b m_factors_euclid_next_a m_factors_euclid_next_b m_factors_euclid_nextOfFirst_a m_factors_euclid_nextOfFirst_b m_factors_euclid_nextOfSecond_a m_factors_euclid_nextOfSecond_b m_factors_euclid_q_a m_factors_euclid_q_b m_factors_euclid_quotientA m_factors_euclid_quotientB m_factors_left_a m_factors_left_b m_factors_found_a m_factors_found_b m_factors_product_a m_factors_product_b m_primes_count m_primes_primeA m_primes_primeB m_primes_found_a m_primes_found_b m_rings_foundA m_rings_foundB m_rings_all m_rings_mostOfOneRow m_letters_count m_letters_bytes m_three_a m_three_b m_four_a m_four_b m_marks R  m_drawers_full m_drawers_partA m_drawers_partB m_euclid_count m_euclid_last_a m_euclid_last_b m_euclid_lastOfFirst_a m_euclid_lastOfFirst_b m_euclid_lastOfSecond_a m_euclid_lastOfSecond_b m_euclid_next_a m_euclid_next_b m_euclid_nextOfFirst_a m_euclid_nextOfFirst_b m_euclid_nextOfSecond_a m_euclid_nextOfSecond_b m_euclid_q_a m_euclid_q_b m_euclid_quotientA m_euclid_quotientB y23.2.1 y23.2.2.1 y23.2.2.2.1 y23.2.2.2.2 m_out_a m_out_b m_spare_a m_spare_b v3 v4 _ _ _ X (lv_sub hl [1, 4, 5] rfl) hf
    refine x_iload 35 C dX10_work_33 hl 0 rfl rfl ?_
    obtain rfl := Option.some.inj hf
    exact R _ _ _ _ X dX10_work_35
  refine x_iconst 19 C dX10_work_18 (-1 : Int32) kv_iconst_m1 rfl ?_
  obtain rfl := Option.some.inj hf
  exact R _ _ _ _ X dX10_work_19
set_option maxHeartbeats 4000000 in
set_option maxRecDepth 100000 in
theorem c_X11_takes (l : Launch) (D : va_G) (T : KT) (h : Nat → Nat) (v1 : Int32) (m_taped m_states : Int32) (m_ra m_rb : Int64) (m_threes m_primes m_ones m_unit : Int32) (m_allParts m_allNorms m_allClasses : Int64) (m_odd : Int32) (m_boxWide m_boxHigh m_boxStep : Int64) (m_partingMany : Int32) (m_qa m_qb m_la m_lb m_sa m_sb m_ta m_tb : Int64) (m_listed m_tells m_wanted m_found : Int32) (m_bits : Int64) (m_power2 m_rings m_ringA m_ringB m_seedNow : Int32) (m_tape m_has m_keptHas m_first m_second m_keptFirst m_keptSecond m_pa m_pb m_pNorm m_cubed m_isOpen m_signs m_often m_la0 m_lb0 : Nat → Int32) (x : Int32 × (Nat → Int32) × (Nat → Int32) × (Nat → Int32)) (hf : f_X11_takes v1 m_ra m_rb m_has m_first m_second = some x) : kx_MI l yX11_takes cX11_takes 2 (some .int) 2 48 D T [.ref (h 0), .int v1] (wM T h m_taped m_states m_ra m_rb m_threes m_primes m_ones m_unit m_allParts m_allNorms m_allClasses m_odd m_boxWide m_boxHigh m_boxStep m_partingMany m_qa m_qb m_la m_lb m_sa m_sb m_ta m_tb m_listed m_tells m_wanted m_found m_bits m_power2 m_rings m_ringA m_ringB m_seedNow m_tape m_has m_keptHas m_first m_second m_keptFirst m_keptSecond m_pa m_pb m_pNorm m_cubed m_isOpen m_signs m_often m_la0 m_lb0) (wM T h m_taped m_states m_ra m_rb m_threes m_primes m_ones m_unit m_allParts m_allNorms m_allClasses m_odd m_boxWide m_boxHigh m_boxStep m_partingMany m_qa m_qb m_la m_lb m_sa m_sb m_ta m_tb m_listed m_tells m_wanted m_found m_bits m_power2 m_rings m_ringA m_ringB m_seedNow m_tape x.2.1 m_keptHas x.2.2.1 x.2.2.2 m_keptFirst m_keptSecond m_pa m_pb m_pNorm m_cubed m_isOpen m_signs m_often m_la0 m_lb0) x.1 := by
  refine kx_ofMI RX11 rfl (plainFor_of_name (x := yX11_takes) kpn_X11) rfl ?_
  intro E A H ls _ C X R hl
  have hl : lv_has ls 2 [(0, .ref (h 0)), (1, .int v1)] := hl
  rw [f_X11_takes] at hf
  refine x_aload_n 1 C dX11_takes_0 hl 0 rfl rfl ?_
  refine x_get 4 C dX11_takes_1 X kf_X11_105 0 rfl rfl rfl ?_
  refine x_aload_n 5 C dX11_takes_4 hl 0 rfl rfl ?_
  refine x_get 8 C dX11_takes_5 X kf_X11_109 0 rfl rfl rfl ?_
  obtain ⟨y8, hy8, hf⟩ := kx_bind hf
  refine x_callSi 11 C dX11_takes_8 X hl kl_X11_89 (c_X11_isNear E.2.1 D T  m_ra m_rb  y8 hy8) [] rfl rfl rfl rfl rfl cb_7 rfl (fun H locs X => ?_)
  refine x_if_ne 17 14 C dX11_takes_11 rfl rfl hf (fun hf => ?_) (fun hf => ?_)
  · refine x_aload_n 18 C dX11_takes_17 hl 0 rfl rfl ?_
    refine x_iload_n 19 C dX11_takes_18 hl 1 rfl rfl ?_
    refine x_aload_n 20 C dX11_takes_19 hl 0 rfl rfl ?_
    refine x_get 23 C dX11_takes_20 X kf_X11_105 0 rfl rfl rfl ?_
    refine x_aload_n 24 C dX11_takes_23 hl 0 rfl rfl ?_
    refine x_get 27 C dX11_takes_24 X kf_X11_109 0 rfl rfl rfl ?_
    obtain ⟨y27, hy27, hf⟩ := kx_bind hf
    refine x_callVv0 30 C dX11_takes_27 X hl kl_X11_93 (c_X11_puts E.2.1 D T h v1 m_ra m_rb m_taped m_states m_ra m_rb m_threes m_primes m_ones m_unit m_allParts m_allNorms m_allClasses m_odd m_boxWide m_boxHigh m_boxStep m_partingMany m_qa m_qb m_la m_lb m_sa m_sb m_ta m_tb m_listed m_tells m_wanted m_found m_bits m_power2 m_rings m_ringA m_ringB m_seedNow m_tape m_has m_keptHas m_first m_second m_keptFirst m_keptSecond m_pa m_pb m_pNorm m_cubed m_isOpen m_signs m_often m_la0 m_lb0 y27 hy27) rfl rfl [] rfl rfl rfl rfl rfl rfl (fun H locs X => ?_)
    refine x_aload_n 31 C dX11_takes_30 hl 0 rfl rfl ?_
    refine x_get 34 C dX11_takes_31 X kf_X11_105 0 rfl rfl rfl ?_
    refine x_aload_n 35 C dX11_takes_34 hl 0 rfl rfl ?_
    refine x_get 38 C dX11_takes_35 X kf_X11_109 0 rfl rfl rfl ?_
    obtain ⟨y38, hy38, hf⟩ := kx_bind hf
    refine x_callSi 41 C dX11_takes_38 X hl kl_X11_160 (c_X11_normOf E.2.1 D T  m_ra m_rb  y38 hy38) [] rfl rfl rfl rfl rfl cb_7 rfl (fun H locs X => ?_)
    obtain rfl := Option.some.inj hf
    exact R _ _ _ _ X dX11_takes_41
  refine x_bipush 16 C dX11_takes_14 (-4 : Int32) kv_bipush_m4 rfl ?_
  obtain rfl := Option.some.inj hf
  exact R _ _ _ _ X dX11_takes_16
set_option maxHeartbeats 4000000 in
set_option maxRecDepth 100000 in
theorem c_X11_nearestTo (l : Launch) (D : va_G) (T : KT)  (v0 v2 : Int64)  (x : Int64) (hf : f_X11_nearestTo v0 v2 = some x) : kx_ML l yX11_nearestTo cX11_nearestTo 4 (some .long) 1 25 D T [.long v0, .long v2] (w4_ T  ) (w4_ T  ) x := by
  refine kx_ofML RX11 rfl (plainFor_of_name (x := yX11_nearestTo) kpn_X11) rfl ?_
  intro E A H ls _ C X R hl
  have hl : lv_has ls 4 [(0, .long v0), (2, .long v2)] := hl
  rw [f_X11_nearestTo] at hf
  refine x_ldc2_w 3 C dX11_nearestTo_0 (2 : Int64) kc_X11_119 rfl ?_
  refine x_lload_n 4 C dX11_nearestTo_3 hl 0 rfl rfl ?_
  refine x_lmul 5 C dX11_nearestTo_4 rfl ?_
  refine x_lload_n 6 C dX11_nearestTo_5 hl 1 rfl rfl ?_
  refine x_ladd 7 C dX11_nearestTo_6 rfl ?_
  refine x_ldc2_w 10 C dX11_nearestTo_7 (2 : Int64) kc_X11_119 rfl ?_
  refine x_lload_n 11 C dX11_nearestTo_10 hl 1 rfl rfl ?_
  refine x_lmul 12 C dX11_nearestTo_11 rfl ?_
  obtain ⟨y12, hy12, hf⟩ := kx_bind hf
  refine x_callSl0 15 C dX11_nearestTo_12 X hl kl_X11_63 (c_X11_down E.2.1 D T  (((2 : Int64) * v0) + v2) ((2 : Int64) * v2)  y12 hy12) [] rfl rfl rfl rfl rfl rfl (fun H locs X => ?_)
  obtain rfl := Option.some.inj hf
  exact R _ _ _ _ X dX11_nearestTo_15
set_option maxHeartbeats 4000000 in
set_option maxRecDepth 100000 in
theorem c_X11_parts (l : Launch) (D : va_G) (T : KT) (h : Nat → Nat) (v1 v3 v5 v7 : Int64) (m_taped m_states : Int32) (m_ra m_rb : Int64) (m_threes m_primes m_ones m_unit : Int32) (m_allParts m_allNorms m_allClasses : Int64) (m_odd : Int32) (m_boxWide m_boxHigh m_boxStep : Int64) (m_partingMany : Int32) (m_qa m_qb m_la m_lb m_sa m_sb m_ta m_tb : Int64) (m_listed m_tells m_wanted m_found : Int32) (m_bits : Int64) (m_power2 m_rings m_ringA m_ringB m_seedNow : Int32) (m_tape m_has m_keptHas m_first m_second m_keptFirst m_keptSecond m_pa m_pb m_pNorm m_cubed m_isOpen m_signs m_often m_la0 m_lb0 : Nat → Int32) (x : Int64 × Int64) (hf : f_X11_parts v1 v3 v5 v7 = some x) : kx_MV l yX11_parts cX11_parts 11 none 2 52 D T [.ref (h 0), .long v1, .long v3, .long v5, .long v7] (wM T h m_taped m_states m_ra m_rb m_threes m_primes m_ones m_unit m_allParts m_allNorms m_allClasses m_odd m_boxWide m_boxHigh m_boxStep m_partingMany m_qa m_qb m_la m_lb m_sa m_sb m_ta m_tb m_listed m_tells m_wanted m_found m_bits m_power2 m_rings m_ringA m_ringB m_seedNow m_tape m_has m_keptHas m_first m_second m_keptFirst m_keptSecond m_pa m_pb m_pNorm m_cubed m_isOpen m_signs m_often m_la0 m_lb0) (wM T h m_taped m_states x.1 x.2 m_threes m_primes m_ones m_unit m_allParts m_allNorms m_allClasses m_odd m_boxWide m_boxHigh m_boxStep m_partingMany m_qa m_qb m_la m_lb m_sa m_sb m_ta m_tb m_listed m_tells m_wanted m_found m_bits m_power2 m_rings m_ringA m_ringB m_seedNow m_tape m_has m_keptHas m_first m_second m_keptFirst m_keptSecond m_pa m_pb m_pNorm m_cubed m_isOpen m_signs m_often m_la0 m_lb0) := by
  refine kx_ofMV RX11 rfl (plainFor_of_name (x := yX11_parts) kpn_X11) rfl ?_
  intro E A H ls _ C X R hl
  have hl : lv_has ls 11 [(0, .ref (h 0)), (1, .long v1), (3, .long v3), (5, .long v5), (7, .long v7)] := hl
  rw [f_X11_parts] at hf
  refine x_lload 2 C dX11_parts_0 hl 3 rfl rfl ?_
  refine x_lload 4 C dX11_parts_2 hl 4 rfl rfl ?_
  obtain ⟨y4, hy4, hf⟩ := kx_bind hf
  refine x_callSl 7 C dX11_parts_4 X hl kl_X11_112 (c_X11_norm E.2.1 D T  v5 v7  y4 hy4) [] rfl rfl rfl rfl rfl cb_7 rfl (fun H locs X => ?_)
  refine x_lstore 9 C dX11_parts_7 [(9, .long y4), (0, .ref (h 0)), (1, .long v1), (3, .long v3), (5, .long v5), (7, .long v7)] hl rfl rfl rfl (fun ls hl => ?_)
  refine x_aload_n 10 C dX11_parts_9 hl 1 rfl rfl ?_
  refine x_lload_n 11 C dX11_parts_10 hl 2 rfl rfl ?_
  refine x_lload_n 12 C dX11_parts_11 hl 3 rfl rfl ?_
  refine x_lload 14 C dX11_parts_12 hl 4 rfl rfl ?_
  refine x_lload 16 C dX11_parts_14 hl 5 rfl rfl ?_
  refine x_lsub 17 C dX11_parts_16 rfl ?_
  refine x_lload 19 C dX11_parts_17 hl 5 rfl rfl ?_
  refine x_lneg 20 C dX11_parts_19 rfl ?_
  obtain ⟨y20, hy20, hf⟩ := kx_bind hf
  refine x_callVv0 23 C dX11_parts_20 X hl kl_X11_121 (c_X11_times E.2.1 D T h v1 v3 (v5 - v7) (-v7) m_taped m_states m_ra m_rb m_threes m_primes m_ones m_unit m_allParts m_allNorms m_allClasses m_odd m_boxWide m_boxHigh m_boxStep m_partingMany m_qa m_qb m_la m_lb m_sa m_sb m_ta m_tb m_listed m_tells m_wanted m_found m_bits m_power2 m_rings m_ringA m_ringB m_seedNow m_tape m_has m_keptHas m_first m_second m_keptFirst m_keptSecond m_pa m_pb m_pNorm m_cubed m_isOpen m_signs m_often m_la0 m_lb0 y20 hy20) rfl rfl [] rfl rfl rfl rfl rfl rfl (fun H locs X => ?_)
  refine x_aload_n 24 C dX11_parts_23 hl 1 rfl rfl ?_
  refine x_aload_n 25 C dX11_parts_24 hl 1 rfl rfl ?_
  refine x_get 28 C dX11_parts_25 X kf_X11_105 0 rfl rfl rfl ?_
  refine x_lload 30 C dX11_parts_28 hl 0 rfl rfl ?_
  obtain ⟨y30, hy30, hf⟩ := kx_bind hf
  refine x_callSl 33 C dX11_parts_30 X hl kl_X11_125 (c_X11_nearestTo E.2.1 D T  y20.1 y4  y30 hy30) [.ref (h 0)] rfl rfl rfl rfl rfl cb_7 rfl (fun H locs X => ?_)
  refine x_aload_n 34 C dX11_parts_33 hl 1 rfl rfl ?_
  refine x_get 37 C dX11_parts_34 X kf_X11_109 0 rfl rfl rfl ?_
  refine x_lload 39 C dX11_parts_37 hl 0 rfl rfl ?_
  obtain ⟨y39, hy39, hf⟩ := kx_bind hf
  refine x_callSl 42 C dX11_parts_39 X hl kl_X11_125 (c_X11_nearestTo E.2.1 D T  y20.2 y4  y39 hy39) [.long y30, .ref (h 0)] rfl rfl rfl rfl rfl cb_7 rfl (fun H locs X => ?_)
  obtain ⟨y42, hy42, hf⟩ := kx_bind hf
  refine x_callVv0 45 C dX11_parts_42 X hl kl_X11_115 (c_X11_sets E.2.1 D T h y30 y39 m_taped m_states y20.1 y20.2 m_threes m_primes m_ones m_unit m_allParts m_allNorms m_allClasses m_odd m_boxWide m_boxHigh m_boxStep m_partingMany m_qa m_qb m_la m_lb m_sa m_sb m_ta m_tb m_listed m_tells m_wanted m_found m_bits m_power2 m_rings m_ringA m_ringB m_seedNow m_tape m_has m_keptHas m_first m_second m_keptFirst m_keptSecond m_pa m_pb m_pNorm m_cubed m_isOpen m_signs m_often m_la0 m_lb0 y42 hy42) rfl rfl [] rfl rfl rfl rfl rfl rfl (fun H locs X => ?_)
  obtain rfl := Option.some.inj hf
  exact R _ _ _ _ X dX11_parts_45
set_option maxHeartbeats 4000000 in
set_option maxRecDepth 100000 in
theorem c_X11_rests (l : Launch) (D : va_G) (T : KT) (h : Nat → Nat) (v1 v3 v5 v7 : Int64) (m_taped m_states : Int32) (m_ra m_rb : Int64) (m_threes m_primes m_ones m_unit : Int32) (m_allParts m_allNorms m_allClasses : Int64) (m_odd : Int32) (m_boxWide m_boxHigh m_boxStep : Int64) (m_partingMany : Int32) (m_qa m_qb m_la m_lb m_sa m_sb m_ta m_tb : Int64) (m_listed m_tells m_wanted m_found : Int32) (m_bits : Int64) (m_power2 m_rings m_ringA m_ringB m_seedNow : Int32) (m_tape m_has m_keptHas m_first m_second m_keptFirst m_keptSecond m_pa m_pb m_pNorm m_cubed m_isOpen m_signs m_often m_la0 m_lb0 : Nat → Int32) (x : Int64 × Int64) (hf : f_X11_rests v1 v3 v5 v7 = some x) : kx_MV l yX11_rests cX11_rests 9 none 3 82 D T [.ref (h 0), .long v1, .long v3, .long v5, .long v7] (wM T h m_taped m_states m_ra m_rb m_threes m_primes m_ones m_unit m_allParts m_allNorms m_allClasses m_odd m_boxWide m_boxHigh m_boxStep m_partingMany m_qa m_qb m_la m_lb m_sa m_sb m_ta m_tb m_listed m_tells m_wanted m_found m_bits m_power2 m_rings m_ringA m_ringB m_seedNow m_tape m_has m_keptHas m_first m_second m_keptFirst m_keptSecond m_pa m_pb m_pNorm m_cubed m_isOpen m_signs m_often m_la0 m_lb0) (wM T h m_taped m_states x.1 x.2 m_threes m_primes m_ones m_unit m_allParts m_allNorms m_allClasses m_odd m_boxWide m_boxHigh m_boxStep m_partingMany m_qa m_qb m_la m_lb m_sa m_sb m_ta m_tb m_listed m_tells m_wanted m_found m_bits m_power2 m_rings m_ringA m_ringB m_seedNow m_tape m_has m_keptHas m_first m_second m_keptFirst m_keptSecond m_pa m_pb m_pNorm m_cubed m_isOpen m_signs m_often m_la0 m_lb0) := by
  refine kx_ofMV RX11 rfl (plainFor_of_name (x := yX11_rests) kpn_X11) rfl ?_
  intro E A H ls _ C X R hl
  have hl : lv_has ls 9 [(0, .ref (h 0)), (1, .long v1), (3, .long v3), (5, .long v5), (7, .long v7)] := hl
  rw [f_X11_rests] at hf
  refine x_aload_n 1 C dX11_rests_0 hl 0 rfl rfl ?_
  refine x_lload_n 2 C dX11_rests_1 hl 1 rfl rfl ?_
  refine x_lload_n 3 C dX11_rests_2 hl 2 rfl rfl ?_
  refine x_lload 5 C dX11_rests_3 hl 3 rfl rfl ?_
  refine x_lload 7 C dX11_rests_5 hl 4 rfl rfl ?_
  obtain ⟨y7, hy7, hf⟩ := kx_bind hf
  refine x_callVv0 10 C dX11_rests_7 X hl kl_X11_128 (c_X11_parts E.2.1 D T h v1 v3 v5 v7 m_taped m_states m_ra m_rb m_threes m_primes m_ones m_unit m_allParts m_allNorms m_allClasses m_odd m_boxWide m_boxHigh m_boxStep m_partingMany m_qa m_qb m_la m_lb m_sa m_sb m_ta m_tb m_listed m_tells m_wanted m_found m_bits m_power2 m_rings m_ringA m_ringB m_seedNow m_tape m_has m_keptHas m_first m_second m_keptFirst m_keptSecond m_pa m_pb m_pNorm m_cubed m_isOpen m_signs m_often m_la0 m_lb0 y7 hy7) rfl rfl [] rfl rfl rfl rfl rfl rfl (fun H locs X => ?_)
  refine x_aload_n 11 C dX11_rests_10 hl 0 rfl rfl ?_
  refine x_aload_n 12 C dX11_rests_11 hl 0 rfl rfl ?_
  refine x_get 15 C dX11_rests_12 X kf_X11_105 0 rfl rfl rfl ?_
  refine x_aload_n 16 C dX11_rests_15 hl 0 rfl rfl ?_
  refine x_get 19 C dX11_rests_16 X kf_X11_109 0 rfl rfl rfl ?_
  refine x_lload 21 C dX11_rests_19 hl 3 rfl rfl ?_
  refine x_lload 23 C dX11_rests_21 hl 4 rfl rfl ?_
  obtain ⟨y23, hy23, hf⟩ := kx_bind hf
  refine x_callVv0 26 C dX11_rests_23 X hl kl_X11_121 (c_X11_times E.2.1 D T h y7.1 y7.2 v5 v7 m_taped m_states y7.1 y7.2 m_threes m_primes m_ones m_unit m_allParts m_allNorms m_allClasses m_odd m_boxWide m_boxHigh m_boxStep m_partingMany m_qa m_qb m_la m_lb m_sa m_sb m_ta m_tb m_listed m_tells m_wanted m_found m_bits m_power2 m_rings m_ringA m_ringB m_seedNow m_tape m_has m_keptHas m_first m_second m_keptFirst m_keptSecond m_pa m_pb m_pNorm m_cubed m_isOpen m_signs m_often m_la0 m_lb0 y23 hy23) rfl rfl [] rfl rfl rfl rfl rfl rfl (fun H locs X => ?_)
  refine x_aload_n 27 C dX11_rests_26 hl 0 rfl rfl ?_
  refine x_lload_n 28 C dX11_rests_27 hl 1 rfl rfl ?_
  refine x_aload_n 29 C dX11_rests_28 hl 0 rfl rfl ?_
  refine x_get 32 C dX11_rests_29 X kf_X11_105 0 rfl rfl rfl ?_
  refine x_lsub 33 C dX11_rests_32 rfl ?_
  refine x_lload_n 34 C dX11_rests_33 hl 2 rfl rfl ?_
  refine x_aload_n 35 C dX11_rests_34 hl 0 rfl rfl ?_
  refine x_get 38 C dX11_rests_35 X kf_X11_109 0 rfl rfl rfl ?_
  refine x_lsub 39 C dX11_rests_38 rfl ?_
  obtain ⟨y39, hy39, hf⟩ := kx_bind hf
  refine x_callVv0 42 C dX11_rests_39 X hl kl_X11_115 (c_X11_sets E.2.1 D T h (v1 - y23.1) (v3 - y23.2) m_taped m_states y23.1 y23.2 m_threes m_primes m_ones m_unit m_allParts m_allNorms m_allClasses m_odd m_boxWide m_boxHigh m_boxStep m_partingMany m_qa m_qb m_la m_lb m_sa m_sb m_ta m_tb m_listed m_tells m_wanted m_found m_bits m_power2 m_rings m_ringA m_ringB m_seedNow m_tape m_has m_keptHas m_first m_second m_keptFirst m_keptSecond m_pa m_pb m_pNorm m_cubed m_isOpen m_signs m_often m_la0 m_lb0 y39 hy39) rfl rfl [] rfl rfl rfl rfl rfl rfl (fun H locs X => ?_)
  obtain rfl := Option.some.inj hf
  exact R _ _ _ _ X dX11_rests_42
set_option maxHeartbeats 4000000 in
set_option maxRecDepth 100000 in
theorem w_X11_commons_28 {E : KE} {A : Nat → Prop} {D : va_G} {T : KT} (h : Nat → Nat) (C : kx_C E cX11_commons 17 none RX11 4 110 D T) (N : Nat) (x : Int64 × Int64) (m_taped m_states m_threes m_primes m_ones m_unit : Int32) (m_allParts m_allNorms m_allClasses : Int64) (m_odd : Int32) (m_boxWide m_boxHigh m_boxStep : Int64) (m_partingMany : Int32) (m_qa m_qb m_la m_lb m_sa m_sb m_ta m_tb : Int64) (m_listed m_tells m_wanted m_found : Int32) (m_bits : Int64) (m_power2 m_rings m_ringA m_ringB m_seedNow : Int32) (m_tape m_has m_keptHas m_first m_second m_keptFirst m_keptSecond m_pa m_pb m_pNorm m_cubed m_isOpen m_signs m_often m_la0 m_lb0 : Nat → Int32) (R : kx_RV E cX11_commons D A (wM T h m_taped m_states x.1 x.2 m_threes m_primes m_ones m_unit m_allParts m_allNorms m_allClasses m_odd m_boxWide m_boxHigh m_boxStep m_partingMany m_qa m_qb m_la m_lb m_sa m_sb m_ta m_tb m_listed m_tells m_wanted m_found m_bits m_power2 m_rings m_ringA m_ringB m_seedNow m_tape m_has m_keptHas m_first m_second m_keptFirst m_keptSecond m_pa m_pb m_pNorm m_cubed m_isOpen m_signs m_often m_la0 m_lb0)) (k14 : Int64 → Int64 → Int64 → Int64 → Option (Int64 × Int64)) (hk14 : ∀ (m_ra m_rb : Int64) (v9 v11 v13 v15 : Int64) (H : Heap) (locs : List Loc) (ls : Array Slot), kx_H E D A H locs (wM T h m_taped m_states m_ra m_rb m_threes m_primes m_ones m_unit m_allParts m_allNorms m_allClasses m_odd m_boxWide m_boxHigh m_boxStep m_partingMany m_qa m_qb m_la m_lb m_sa m_sb m_ta m_tb m_listed m_tells m_wanted m_found m_bits m_power2 m_rings m_ringA m_ringB m_seedNow m_tape m_has m_keptHas m_first m_second m_keptFirst m_keptSecond m_pa m_pb m_pNorm m_cubed m_isOpen m_signs m_often m_la0 m_lb0) → lv_has ls 17 [(0, .ref (h 0)), (9, .long v9), (11, .long v11), (13, .long v13), (15, .long v15)] → k14 v9 v11 v13 v15 = some x → kx_W E H locs 14 ls []) : ∀ (m_ra m_rb : Int64) (v9 v11 v13 v15 : Int64) (H : Heap) (locs : List Loc) (ls : Array Slot), kx_H E D A H locs (wM T h m_taped m_states m_ra m_rb m_threes m_primes m_ones m_unit m_allParts m_allNorms m_allClasses m_odd m_boxWide m_boxHigh m_boxStep m_partingMany m_qa m_qb m_la m_lb m_sa m_sb m_ta m_tb m_listed m_tells m_wanted m_found m_bits m_power2 m_rings m_ringA m_ringB m_seedNow m_tape m_has m_keptHas m_first m_second m_keptFirst m_keptSecond m_pa m_pb m_pNorm m_cubed m_isOpen m_signs m_often m_la0 m_lb0) → lv_has ls 17 [(0, .ref (h 0)), (9, .long v9), (11, .long v11), (13, .long v13), (15, .long v15)] → f_X11_commons_28 N k14 v9 v11 v13 v15 = some x → kx_W E H locs 28 ls [] := by
  intro m_ra m_rb v9 v11 v13 v15 H locs ls X hl hf
  rw [f_X11_commons_28] at hf
  refine x_aload_n 29 C dX11_commons_28 hl 0 rfl rfl ?_
  refine x_lload 31 C dX11_commons_29 hl 1 rfl rfl ?_
  refine x_lload 33 C dX11_commons_31 hl 2 rfl rfl ?_
  refine x_lload 35 C dX11_commons_33 hl 3 rfl rfl ?_
  refine x_lload 37 C dX11_commons_35 hl 4 rfl rfl ?_
  obtain ⟨y37, hy37, hf⟩ := kx_bind hf
  refine x_callVv0 40 C dX11_commons_37 X hl kl_X11_131 (c_X11_rests E.2.1 D T h v9 v11 v13 v15 m_taped m_states m_ra m_rb m_threes m_primes m_ones m_unit m_allParts m_allNorms m_allClasses m_odd m_boxWide m_boxHigh m_boxStep m_partingMany m_qa m_qb m_la m_lb m_sa m_sb m_ta m_tb m_listed m_tells m_wanted m_found m_bits m_power2 m_rings m_ringA m_ringB m_seedNow m_tape m_has m_keptHas m_first m_second m_keptFirst m_keptSecond m_pa m_pb m_pNorm m_cubed m_isOpen m_signs m_often m_la0 m_lb0 y37 hy37) rfl rfl [] rfl rfl rfl rfl rfl rfl (fun H locs X => ?_)
  refine x_lload 42 C dX11_commons_40 hl 3 rfl rfl ?_
  refine x_lstore 44 C dX11_commons_42 [(9, .long v13), (0, .ref (h 0)), (11, .long v11), (13, .long v13), (15, .long v15)] hl rfl rfl rfl (fun ls hl => ?_)
  refine x_lload 46 C dX11_commons_44 hl 4 rfl rfl ?_
  refine x_lstore 48 C dX11_commons_46 [(11, .long v15), (9, .long v13), (0, .ref (h 0)), (13, .long v13), (15, .long v15)] hl rfl rfl rfl (fun ls hl => ?_)
  refine x_aload_n 49 C dX11_commons_48 hl 2 rfl rfl ?_
  refine x_get 52 C dX11_commons_49 X kf_X11_105 0 rfl rfl rfl ?_
  refine x_lstore 54 C dX11_commons_52 [(13, .long y37.1), (11, .long v15), (9, .long v13), (0, .ref (h 0)), (15, .long v15)] hl rfl rfl rfl (fun ls hl => ?_)
  refine x_aload_n 55 C dX11_commons_54 hl 3 rfl rfl ?_
  refine x_get 58 C dX11_commons_55 X kf_X11_109 0 rfl rfl rfl ?_
  refine x_lstore 60 C dX11_commons_58 [(15, .long y37.2), (13, .long y37.1), (11, .long v15), (9, .long v13), (0, .ref (h 0))] hl rfl rfl rfl (fun ls hl => ?_)
  refine x_goto 14 C dX11_commons_60 rfl ?_
  exact hk14 y37.1 y37.2 v13 v15 y37.1 y37.2 _ _ _ X (lv_sub hl [4, 3, 2, 1, 0] rfl) hf
set_option maxHeartbeats 4000000 in
set_option maxRecDepth 100000 in
theorem w_X11_commons_14 {E : KE} {A : Nat → Prop} {D : va_G} {T : KT} (h : Nat → Nat) (C : kx_C E cX11_commons 17 none RX11 4 110 D T) (N : Nat) (x : Int64 × Int64) (m_taped m_states m_threes m_primes m_ones m_unit : Int32) (m_allParts m_allNorms m_allClasses : Int64) (m_odd : Int32) (m_boxWide m_boxHigh m_boxStep : Int64) (m_partingMany : Int32) (m_qa m_qb m_la m_lb m_sa m_sb m_ta m_tb : Int64) (m_listed m_tells m_wanted m_found : Int32) (m_bits : Int64) (m_power2 m_rings m_ringA m_ringB m_seedNow : Int32) (m_tape m_has m_keptHas m_first m_second m_keptFirst m_keptSecond m_pa m_pb m_pNorm m_cubed m_isOpen m_signs m_often m_la0 m_lb0 : Nat → Int32) (R : kx_RV E cX11_commons D A (wM T h m_taped m_states x.1 x.2 m_threes m_primes m_ones m_unit m_allParts m_allNorms m_allClasses m_odd m_boxWide m_boxHigh m_boxStep m_partingMany m_qa m_qb m_la m_lb m_sa m_sb m_ta m_tb m_listed m_tells m_wanted m_found m_bits m_power2 m_rings m_ringA m_ringB m_seedNow m_tape m_has m_keptHas m_first m_second m_keptFirst m_keptSecond m_pa m_pb m_pNorm m_cubed m_isOpen m_signs m_often m_la0 m_lb0)) : ∀ (k : Nat), ∀ (m_ra m_rb : Int64) (v9 v11 v13 v15 : Int64) (H : Heap) (locs : List Loc) (ls : Array Slot), kx_H E D A H locs (wM T h m_taped m_states m_ra m_rb m_threes m_primes m_ones m_unit m_allParts m_allNorms m_allClasses m_odd m_boxWide m_boxHigh m_boxStep m_partingMany m_qa m_qb m_la m_lb m_sa m_sb m_ta m_tb m_listed m_tells m_wanted m_found m_bits m_power2 m_rings m_ringA m_ringB m_seedNow m_tape m_has m_keptHas m_first m_second m_keptFirst m_keptSecond m_pa m_pb m_pNorm m_cubed m_isOpen m_signs m_often m_la0 m_lb0) → lv_has ls 17 [(0, .ref (h 0)), (9, .long v9), (11, .long v11), (13, .long v13), (15, .long v15)] → f_X11_commons_14 N k v9 v11 v13 v15 = some x → kx_W E H locs 14 ls [] := by
  intro k
  induction k with
  | zero =>
    intro m_ra m_rb v9 v11 v13 v15 H locs ls X hl hf
    cases (show (none : Option (Int64 × Int64)) = some x from hf)
  | succ k ih =>
    intro m_ra m_rb v9 v11 v13 v15 H locs ls X hl hf
    rw [f_X11_commons_14] at hf
    refine x_lload 16 C dX11_commons_14 hl 3 rfl rfl ?_
    refine x_lconst 17 C dX11_commons_16 (0 : Int64) kv_lconst_0 rfl ?_
    refine x_lcmp_ne 28 18 21 C dX11_commons_17 dX11_commons_18 rfl rfl rfl hf (fun hf => ?_) (fun hf => ?_)
    · exact w_X11_commons_28 h C N x m_taped m_states m_threes m_primes m_ones m_unit m_allParts m_allNorms m_allClasses m_odd m_boxWide m_boxHigh m_boxStep m_partingMany m_qa m_qb m_la m_lb m_sa m_sb m_ta m_tb m_listed m_tells m_wanted m_found m_bits m_power2 m_rings m_ringA m_ringB m_seedNow m_tape m_has m_keptHas m_first m_second m_keptFirst m_keptSecond m_pa m_pb m_pNorm m_cubed m_isOpen m_signs m_often m_la0 m_lb0 R (f_X11_commons_14 N k) ih m_ra m_rb v9 v11 v13 v15 _ _ _ X (lv_sub hl [0, 1, 2, 3, 4] rfl) hf
    refine x_lload 23 C dX11_commons_21 hl 4 rfl rfl ?_
    refine x_lconst 24 C dX11_commons_23 (0 : Int64) kv_lconst_0 rfl ?_
    refine x_lcmp_eq 63 25 28 C dX11_commons_24 dX11_commons_25 rfl rfl rfl hf (fun hf => ?_) (fun hf => ?_)
    · refine x_aload_n 64 C dX11_commons_63 hl 0 rfl rfl ?_
      refine x_lload 66 C dX11_commons_64 hl 1 rfl rfl ?_
      refine x_lload 68 C dX11_commons_66 hl 2 rfl rfl ?_
      obtain ⟨y68, hy68, hf⟩ := kx_bind hf
      refine x_callVv0 71 C dX11_commons_68 X hl kl_X11_115 (c_X11_sets E.2.1 D T h v9 v11 m_taped m_states m_ra m_rb m_threes m_primes m_ones m_unit m_allParts m_allNorms m_allClasses m_odd m_boxWide m_boxHigh m_boxStep m_partingMany m_qa m_qb m_la m_lb m_sa m_sb m_ta m_tb m_listed m_tells m_wanted m_found m_bits m_power2 m_rings m_ringA m_ringB m_seedNow m_tape m_has m_keptHas m_first m_second m_keptFirst m_keptSecond m_pa m_pb m_pNorm m_cubed m_isOpen m_signs m_often m_la0 m_lb0 y68 hy68) rfl rfl [] rfl rfl rfl rfl rfl rfl (fun H locs X => ?_)
      obtain rfl := Option.some.inj hf
      exact R _ _ _ _ X dX11_commons_71
    exact w_X11_commons_28 h C N x m_taped m_states m_threes m_primes m_ones m_unit m_allParts m_allNorms m_allClasses m_odd m_boxWide m_boxHigh m_boxStep m_partingMany m_qa m_qb m_la m_lb m_sa m_sb m_ta m_tb m_listed m_tells m_wanted m_found m_bits m_power2 m_rings m_ringA m_ringB m_seedNow m_tape m_has m_keptHas m_first m_second m_keptFirst m_keptSecond m_pa m_pb m_pNorm m_cubed m_isOpen m_signs m_often m_la0 m_lb0 R (f_X11_commons_14 N k) ih m_ra m_rb v9 v11 v13 v15 _ _ _ X (lv_sub hl [0, 1, 2, 3, 4] rfl) hf
set_option maxHeartbeats 4000000 in
set_option maxRecDepth 100000 in
theorem c_X11_commons (l : Launch) (D : va_G) (T : KT) (h : Nat → Nat) (N : Nat) (v1 v3 v5 v7 : Int64) (m_taped m_states : Int32) (m_ra m_rb : Int64) (m_threes m_primes m_ones m_unit : Int32) (m_allParts m_allNorms m_allClasses : Int64) (m_odd : Int32) (m_boxWide m_boxHigh m_boxStep : Int64) (m_partingMany : Int32) (m_qa m_qb m_la m_lb m_sa m_sb m_ta m_tb : Int64) (m_listed m_tells m_wanted m_found : Int32) (m_bits : Int64) (m_power2 m_rings m_ringA m_ringB m_seedNow : Int32) (m_tape m_has m_keptHas m_first m_second m_keptFirst m_keptSecond m_pa m_pb m_pNorm m_cubed m_isOpen m_signs m_often m_la0 m_lb0 : Nat → Int32) (x : Int64 × Int64) (hf : f_X11_commons N v1 v3 v5 v7 = some x) : kx_MV l yX11_commons cX11_commons 17 none 4 110 D T [.ref (h 0), .long v1, .long v3, .long v5, .long v7] (wM T h m_taped m_states m_ra m_rb m_threes m_primes m_ones m_unit m_allParts m_allNorms m_allClasses m_odd m_boxWide m_boxHigh m_boxStep m_partingMany m_qa m_qb m_la m_lb m_sa m_sb m_ta m_tb m_listed m_tells m_wanted m_found m_bits m_power2 m_rings m_ringA m_ringB m_seedNow m_tape m_has m_keptHas m_first m_second m_keptFirst m_keptSecond m_pa m_pb m_pNorm m_cubed m_isOpen m_signs m_often m_la0 m_lb0) (wM T h m_taped m_states x.1 x.2 m_threes m_primes m_ones m_unit m_allParts m_allNorms m_allClasses m_odd m_boxWide m_boxHigh m_boxStep m_partingMany m_qa m_qb m_la m_lb m_sa m_sb m_ta m_tb m_listed m_tells m_wanted m_found m_bits m_power2 m_rings m_ringA m_ringB m_seedNow m_tape m_has m_keptHas m_first m_second m_keptFirst m_keptSecond m_pa m_pb m_pNorm m_cubed m_isOpen m_signs m_often m_la0 m_lb0) := by
  refine kx_ofMV RX11 rfl (plainFor_of_name (x := yX11_commons) kpn_X11) rfl ?_
  intro E A H ls _ C X R hl
  have hl : lv_has ls 17 [(0, .ref (h 0)), (1, .long v1), (3, .long v3), (5, .long v5), (7, .long v7)] := hl
  rw [f_X11_commons] at hf
  refine x_lload_n 1 C dX11_commons_0 hl 1 rfl rfl ?_
  refine x_lstore 3 C dX11_commons_1 [(9, .long v1), (0, .ref (h 0)), (1, .long v1), (3, .long v3), (5, .long v5), (7, .long v7)] hl rfl rfl rfl (fun ls hl => ?_)
  refine x_lload_n 4 C dX11_commons_3 hl 3 rfl rfl ?_
  refine x_lstore 6 C dX11_commons_4 [(11, .long v3), (9, .long v1), (0, .ref (h 0)), (1, .long v1), (3, .long v3), (5, .long v5), (7, .long v7)] hl rfl rfl rfl (fun ls hl => ?_)
  refine x_lload 8 C dX11_commons_6 hl 5 rfl rfl ?_
  refine x_lstore 10 C dX11_commons_8 [(13, .long v5), (11, .long v3), (9, .long v1), (0, .ref (h 0)), (1, .long v1), (3, .long v3), (5, .long v5), (7, .long v7)] hl rfl rfl rfl (fun ls hl => ?_)
  refine x_lload 12 C dX11_commons_10 hl 7 rfl rfl ?_
  refine x_lstore 14 C dX11_commons_12 [(15, .long v7), (13, .long v5), (11, .long v3), (9, .long v1), (0, .ref (h 0)), (1, .long v1), (3, .long v3), (5, .long v5), (7, .long v7)] hl rfl rfl rfl (fun ls hl => ?_)
  exact w_X11_commons_14 h C N x m_taped m_states m_threes m_primes m_ones m_unit m_allParts m_allNorms m_allClasses m_odd m_boxWide m_boxHigh m_boxStep m_partingMany m_qa m_qb m_la m_lb m_sa m_sb m_ta m_tb m_listed m_tells m_wanted m_found m_bits m_power2 m_rings m_ringA m_ringB m_seedNow m_tape m_has m_keptHas m_first m_second m_keptFirst m_keptSecond m_pa m_pb m_pNorm m_cubed m_isOpen m_signs m_often m_la0 m_lb0 R  N m_ra m_rb v1 v3 v5 v7 _ _ _ X (lv_sub hl [4, 3, 2, 1, 0] rfl) hf
set_option maxHeartbeats 4000000 in
set_option maxRecDepth 100000 in
theorem w_X11_owns_28 {E : KE} {A : Nat → Prop} {D : va_G} {T : KT} (h : Nat → Nat) (C : kx_C E cX11_owns 6 none RX11 4 95 D T) (N : Nat) (x : Int64 × Int64 × Int32) (m_taped m_states m_primes m_ones m_unit : Int32) (m_allParts m_allNorms m_allClasses : Int64) (m_odd : Int32) (m_boxWide m_boxHigh m_boxStep : Int64) (m_partingMany : Int32) (m_qa m_qb m_la m_lb m_sa m_sb m_ta m_tb : Int64) (m_listed m_tells m_wanted m_found : Int32) (m_bits : Int64) (m_power2 m_rings m_ringA m_ringB m_seedNow : Int32) (m_tape m_has m_keptHas m_first m_second m_keptFirst m_keptSecond m_pa m_pb m_pNorm m_cubed m_isOpen m_signs m_often m_la0 m_lb0 : Nat → Int32) (R : kx_RV E cX11_owns D A (wM T h m_taped m_states x.1 x.2.1 x.2.2 m_primes m_ones m_unit m_allParts m_allNorms m_allClasses m_odd m_boxWide m_boxHigh m_boxStep m_partingMany m_qa m_qb m_la m_lb m_sa m_sb m_ta m_tb m_listed m_tells m_wanted m_found m_bits m_power2 m_rings m_ringA m_ringB m_seedNow m_tape m_has m_keptHas m_first m_second m_keptFirst m_keptSecond m_pa m_pb m_pNorm m_cubed m_isOpen m_signs m_often m_la0 m_lb0)) : ∀ (k : Nat), ∀ (m_ra m_rb : Int64) (m_threes : Int32) (v5 : Int32) (H : Heap) (locs : List Loc) (ls : Array Slot), kx_H E D A H locs (wM T h m_taped m_states m_ra m_rb m_threes m_primes m_ones m_unit m_allParts m_allNorms m_allClasses m_odd m_boxWide m_boxHigh m_boxStep m_partingMany m_qa m_qb m_la m_lb m_sa m_sb m_ta m_tb m_listed m_tells m_wanted m_found m_bits m_power2 m_rings m_ringA m_ringB m_seedNow m_tape m_has m_keptHas m_first m_second m_keptFirst m_keptSecond m_pa m_pb m_pNorm m_cubed m_isOpen m_signs m_often m_la0 m_lb0) → lv_has ls 6 [(0, .ref (h 0)), (5, .int v5)] → f_X11_owns_28 N k v5 m_ra m_rb m_threes = some x → kx_W E H locs 28 ls [] := by
  intro k
  induction k with
  | zero =>
    intro m_ra m_rb m_threes v5 H locs ls X hl hf
    cases (show (none : Option (Int64 × Int64 × Int32)) = some x from hf)
  | succ k ih =>
    intro m_ra m_rb m_threes v5 H locs ls X hl hf
    rw [f_X11_owns_28] at hf
    refine x_iload 30 C dX11_owns_28 hl 1 rfl rfl ?_
    refine x_aload_n 31 C dX11_owns_30 hl 0 rfl rfl ?_
    refine x_get 34 C dX11_owns_31 X kf_X11_139 0 rfl rfl rfl ?_
    refine x_icmp_ge 59 37 C dX11_owns_34 rfl rfl hf (fun hf => ?_) (fun hf => ?_)
    · obtain rfl := Option.some.inj hf
      exact R _ _ _ _ X dX11_owns_59
    refine x_aload_n 38 C dX11_owns_37 hl 0 rfl rfl ?_
    refine x_aload_n 39 C dX11_owns_38 hl 0 rfl rfl ?_
    refine x_get 42 C dX11_owns_39 X kf_X11_105 0 rfl rfl rfl ?_
    refine x_aload_n 43 C dX11_owns_42 hl 0 rfl rfl ?_
    refine x_get 46 C dX11_owns_43 X kf_X11_109 0 rfl rfl rfl ?_
    refine x_lconst 47 C dX11_owns_46 (1 : Int64) kv_lconst_1 rfl ?_
    refine x_ldc2_w 50 C dX11_owns_47 (-1 : Int64) kc_X11_151 rfl ?_
    obtain ⟨y50, hy50, hf⟩ := kx_bind hf
    refine x_callVv0 53 C dX11_owns_50 X hl kl_X11_121 (c_X11_times E.2.1 D T h m_ra m_rb (1 : Int64) (-1 : Int64) m_taped m_states m_ra m_rb m_threes m_primes m_ones m_unit m_allParts m_allNorms m_allClasses m_odd m_boxWide m_boxHigh m_boxStep m_partingMany m_qa m_qb m_la m_lb m_sa m_sb m_ta m_tb m_listed m_tells m_wanted m_found m_bits m_power2 m_rings m_ringA m_ringB m_seedNow m_tape m_has m_keptHas m_first m_second m_keptFirst m_keptSecond m_pa m_pb m_pNorm m_cubed m_isOpen m_signs m_often m_la0 m_lb0 y50 hy50) rfl rfl [] rfl rfl rfl rfl rfl rfl (fun H locs X => ?_)
    refine x_iinc 56 C dX11_owns_53 (1 : Int32) kv_iconst_1 [(5, .int (v5 + (1 : Int32))), (0, .ref (h 0))] hl 1 rfl rfl rfl rfl (fun ls hl => ?_)
    refine x_goto 28 C dX11_owns_56 rfl ?_
    exact ih y50.1 y50.2 m_threes (v5 + (1 : Int32)) _ _ _ X (lv_sub hl [1, 0] rfl) hf
set_option maxHeartbeats 4000000 in
set_option maxRecDepth 100000 in
theorem w_X11_owns_19 {E : KE} {A : Nat → Prop} {D : va_G} {T : KT} (h : Nat → Nat) (C : kx_C E cX11_owns 6 none RX11 4 95 D T) (N : Nat) (x : Int64 × Int64 × Int32) (m_taped m_states m_primes m_ones m_unit : Int32) (m_allParts m_allNorms m_allClasses : Int64) (m_odd : Int32) (m_boxWide m_boxHigh m_boxStep : Int64) (m_partingMany : Int32) (m_qa m_qb m_la m_lb m_sa m_sb m_ta m_tb : Int64) (m_listed m_tells m_wanted m_found : Int32) (m_bits : Int64) (m_power2 m_rings m_ringA m_ringB m_seedNow : Int32) (m_tape m_has m_keptHas m_first m_second m_keptFirst m_keptSecond m_pa m_pb m_pNorm m_cubed m_isOpen m_signs m_often m_la0 m_lb0 : Nat → Int32) (R : kx_RV E cX11_owns D A (wM T h m_taped m_states x.1 x.2.1 x.2.2 m_primes m_ones m_unit m_allParts m_allNorms m_allClasses m_odd m_boxWide m_boxHigh m_boxStep m_partingMany m_qa m_qb m_la m_lb m_sa m_sb m_ta m_tb m_listed m_tells m_wanted m_found m_bits m_power2 m_rings m_ringA m_ringB m_seedNow m_tape m_has m_keptHas m_first m_second m_keptFirst m_keptSecond m_pa m_pb m_pNorm m_cubed m_isOpen m_signs m_often m_la0 m_lb0)) : ∀ (m_ra m_rb : Int64) (m_threes : Int32) (v1 v3 : Int64) (H : Heap) (locs : List Loc) (ls : Array Slot), kx_H E D A H locs (wM T h m_taped m_states m_ra m_rb m_threes m_primes m_ones m_unit m_allParts m_allNorms m_allClasses m_odd m_boxWide m_boxHigh m_boxStep m_partingMany m_qa m_qb m_la m_lb m_sa m_sb m_ta m_tb m_listed m_tells m_wanted m_found m_bits m_power2 m_rings m_ringA m_ringB m_seedNow m_tape m_has m_keptHas m_first m_second m_keptFirst m_keptSecond m_pa m_pb m_pNorm m_cubed m_isOpen m_signs m_often m_la0 m_lb0) → lv_has ls 6 [(0, .ref (h 0)), (1, .long v1), (3, .long v3)] → f_X11_owns_19 N v1 v3 = some x → kx_W E H locs 19 ls [] := by
  intro m_ra m_rb m_threes v1 v3 H locs ls X hl hf
  rw [f_X11_owns_19] at hf
  refine x_aload_n 20 C dX11_owns_19 hl 0 rfl rfl ?_
  refine x_lload_n 21 C dX11_owns_20 hl 1 rfl rfl ?_
  refine x_lload_n 22 C dX11_owns_21 hl 2 rfl rfl ?_
  obtain ⟨y22, hy22, hf⟩ := kx_bind hf
  refine x_callVv0 25 C dX11_owns_22 X hl kl_X11_148 (c_X11_takesThrees E.2.1 D T h N v1 v3 m_taped m_states m_ra m_rb m_threes m_primes m_ones m_unit m_allParts m_allNorms m_allClasses m_odd m_boxWide m_boxHigh m_boxStep m_partingMany m_qa m_qb m_la m_lb m_sa m_sb m_ta m_tb m_listed m_tells m_wanted m_found m_bits m_power2 m_rings m_ringA m_ringB m_seedNow m_tape m_has m_keptHas m_first m_second m_keptFirst m_keptSecond m_pa m_pb m_pNorm m_cubed m_isOpen m_signs m_often m_la0 m_lb0 y22 hy22) rfl rfl [] rfl rfl rfl rfl rfl rfl (fun H locs X => ?_)
  refine x_iconst 26 C dX11_owns_25 (0 : Int32) kv_iconst_0 rfl ?_
  refine x_istore 28 C dX11_owns_26 [(5, .int (0 : Int32)), (0, .ref (h 0)), (1, .long v1), (3, .long v3)] hl rfl rfl rfl (fun ls hl => ?_)
  exact w_X11_owns_28 h C N x m_taped m_states m_primes m_ones m_unit m_allParts m_allNorms m_allClasses m_odd m_boxWide m_boxHigh m_boxStep m_partingMany m_qa m_qb m_la m_lb m_sa m_sb m_ta m_tb m_listed m_tells m_wanted m_found m_bits m_power2 m_rings m_ringA m_ringB m_seedNow m_tape m_has m_keptHas m_first m_second m_keptFirst m_keptSecond m_pa m_pb m_pNorm m_cubed m_isOpen m_signs m_often m_la0 m_lb0 R  N y22.1 y22.2.1 y22.2.2 (0 : Int32) _ _ _ X (lv_sub hl [1, 0] rfl) hf
set_option maxHeartbeats 4000000 in
set_option maxRecDepth 100000 in
theorem c_X11_owns (l : Launch) (D : va_G) (T : KT) (h : Nat → Nat) (N : Nat) (v1 v3 : Int64) (m_taped m_states : Int32) (m_ra m_rb : Int64) (m_threes m_primes m_ones m_unit : Int32) (m_allParts m_allNorms m_allClasses : Int64) (m_odd : Int32) (m_boxWide m_boxHigh m_boxStep : Int64) (m_partingMany : Int32) (m_qa m_qb m_la m_lb m_sa m_sb m_ta m_tb : Int64) (m_listed m_tells m_wanted m_found : Int32) (m_bits : Int64) (m_power2 m_rings m_ringA m_ringB m_seedNow : Int32) (m_tape m_has m_keptHas m_first m_second m_keptFirst m_keptSecond m_pa m_pb m_pNorm m_cubed m_isOpen m_signs m_often m_la0 m_lb0 : Nat → Int32) (x : Int64 × Int64 × Int32) (hf : f_X11_owns N v1 v3 m_threes = some x) : kx_MV l yX11_owns cX11_owns 6 none 4 95 D T [.ref (h 0), .long v1, .long v3] (wM T h m_taped m_states m_ra m_rb m_threes m_primes m_ones m_unit m_allParts m_allNorms m_allClasses m_odd m_boxWide m_boxHigh m_boxStep m_partingMany m_qa m_qb m_la m_lb m_sa m_sb m_ta m_tb m_listed m_tells m_wanted m_found m_bits m_power2 m_rings m_ringA m_ringB m_seedNow m_tape m_has m_keptHas m_first m_second m_keptFirst m_keptSecond m_pa m_pb m_pNorm m_cubed m_isOpen m_signs m_often m_la0 m_lb0) (wM T h m_taped m_states x.1 x.2.1 x.2.2 m_primes m_ones m_unit m_allParts m_allNorms m_allClasses m_odd m_boxWide m_boxHigh m_boxStep m_partingMany m_qa m_qb m_la m_lb m_sa m_sb m_ta m_tb m_listed m_tells m_wanted m_found m_bits m_power2 m_rings m_ringA m_ringB m_seedNow m_tape m_has m_keptHas m_first m_second m_keptFirst m_keptSecond m_pa m_pb m_pNorm m_cubed m_isOpen m_signs m_often m_la0 m_lb0) := by
  refine kx_ofMV RX11 rfl (plainFor_of_name (x := yX11_owns) kpn_X11) rfl ?_
  intro E A H ls _ C X R hl
  have hl : lv_has ls 6 [(0, .ref (h 0)), (1, .long v1), (3, .long v3)] := hl
  rw [f_X11_owns] at hf
  refine x_lload_n 1 C dX11_owns_0 hl 1 rfl rfl ?_
  refine x_lconst 2 C dX11_owns_1 (0 : Int64) kv_lconst_0 rfl ?_
  refine x_lcmp_ne 19 3 6 C dX11_owns_2 dX11_owns_3 rfl rfl rfl hf (fun hf => ?_) (fun hf => ?_)
  · exact w_X11_owns_19 h C N x m_taped m_states m_primes m_ones m_unit m_allParts m_allNorms m_allClasses m_odd m_boxWide m_boxHigh m_boxStep m_partingMany m_qa m_qb m_la m_lb m_sa m_sb m_ta m_tb m_listed m_tells m_wanted m_found m_bits m_power2 m_rings m_ringA m_ringB m_seedNow m_tape m_has m_keptHas m_first m_second m_keptFirst m_keptSecond m_pa m_pb m_pNorm m_cubed m_isOpen m_signs m_often m_la0 m_lb0 R  m_ra m_rb m_threes v1 v3 _ _ _ X (lv_sub hl [0, 1, 2] rfl) hf
  refine x_lload_n 7 C dX11_owns_6 hl 2 rfl rfl ?_
  refine x_lconst 8 C dX11_owns_7 (0 : Int64) kv_lconst_0 rfl ?_
  refine x_lcmp_ne 19 9 12 C dX11_owns_8 dX11_owns_9 rfl rfl rfl hf (fun hf => ?_) (fun hf => ?_)
  · exact w_X11_owns_19 h C N x m_taped m_states m_primes m_ones m_unit m_allParts m_allNorms m_allClasses m_odd m_boxWide m_boxHigh m_boxStep m_partingMany m_qa m_qb m_la m_lb m_sa m_sb m_ta m_tb m_listed m_tells m_wanted m_found m_bits m_power2 m_rings m_ringA m_ringB m_seedNow m_tape m_has m_keptHas m_first m_second m_keptFirst m_keptSecond m_pa m_pb m_pNorm m_cubed m_isOpen m_signs m_often m_la0 m_lb0 R  m_ra m_rb m_threes v1 v3 _ _ _ X (lv_sub hl [0, 1, 2] rfl) hf
  refine x_aload_n 13 C dX11_owns_12 hl 0 rfl rfl ?_
  refine x_lconst 14 C dX11_owns_13 (0 : Int64) kv_lconst_0 rfl ?_
  refine x_lconst 15 C dX11_owns_14 (0 : Int64) kv_lconst_0 rfl ?_
  obtain ⟨y15, hy15, hf⟩ := kx_bind hf
  refine x_callVv0 18 C dX11_owns_15 X hl kl_X11_115 (c_X11_sets E.2.1 D T h (0 : Int64) (0 : Int64) m_taped m_states m_ra m_rb m_threes m_primes m_ones m_unit m_allParts m_allNorms m_allClasses m_odd m_boxWide m_boxHigh m_boxStep m_partingMany m_qa m_qb m_la m_lb m_sa m_sb m_ta m_tb m_listed m_tells m_wanted m_found m_bits m_power2 m_rings m_ringA m_ringB m_seedNow m_tape m_has m_keptHas m_first m_second m_keptFirst m_keptSecond m_pa m_pb m_pNorm m_cubed m_isOpen m_signs m_often m_la0 m_lb0 y15 hy15) rfl rfl [] rfl rfl rfl rfl rfl rfl (fun H locs X => ?_)
  obtain rfl := Option.some.inj hf
  exact R _ _ _ _ X dX11_owns_18
set_option maxHeartbeats 4000000 in
set_option maxRecDepth 100000 in
theorem c_X11_isNothing (l : Launch) (D : va_G) (T : KT) (h : Nat → Nat) (v1 : Int32) (m_taped m_states : Int32) (m_ra m_rb : Int64) (m_threes m_primes m_ones m_unit : Int32) (m_allParts m_allNorms m_allClasses : Int64) (m_odd : Int32) (m_boxWide m_boxHigh m_boxStep : Int64) (m_partingMany : Int32) (m_qa m_qb m_la m_lb m_sa m_sb m_ta m_tb : Int64) (m_listed m_tells m_wanted m_found : Int32) (m_bits : Int64) (m_power2 m_rings m_ringA m_ringB m_seedNow : Int32) (m_tape m_has m_keptHas m_first m_second m_keptFirst m_keptSecond m_pa m_pb m_pNorm m_cubed m_isOpen m_signs m_often m_la0 m_lb0 : Nat → Int32) (x : Int32) (hf : f_X11_isNothing v1 m_first m_second = some x) : kx_MI l yX11_isNothing cX11_isNothing 2 (some .boolean) 0 0 D T [.ref (h 0), .int v1] (wM T h m_taped m_states m_ra m_rb m_threes m_primes m_ones m_unit m_allParts m_allNorms m_allClasses m_odd m_boxWide m_boxHigh m_boxStep m_partingMany m_qa m_qb m_la m_lb m_sa m_sb m_ta m_tb m_listed m_tells m_wanted m_found m_bits m_power2 m_rings m_ringA m_ringB m_seedNow m_tape m_has m_keptHas m_first m_second m_keptFirst m_keptSecond m_pa m_pb m_pNorm m_cubed m_isOpen m_signs m_often m_la0 m_lb0) (wM T h m_taped m_states m_ra m_rb m_threes m_primes m_ones m_unit m_allParts m_allNorms m_allClasses m_odd m_boxWide m_boxHigh m_boxStep m_partingMany m_qa m_qb m_la m_lb m_sa m_sb m_ta m_tb m_listed m_tells m_wanted m_found m_bits m_power2 m_rings m_ringA m_ringB m_seedNow m_tape m_has m_keptHas m_first m_second m_keptFirst m_keptSecond m_pa m_pb m_pNorm m_cubed m_isOpen m_signs m_often m_la0 m_lb0) x := by
  refine kx_ofMZ RX11 rfl (plainFor_of_name (x := yX11_isNothing) kpn_X11) rfl ?_
  intro E A H ls _ C X R hl
  have hl : lv_has ls 2 [(0, .ref (h 0)), (1, .int v1)] := hl
  rw [f_X11_isNothing] at hf
  refine x_aload_n 1 C dX11_isNothing_0 hl 0 rfl rfl ?_
  refine x_get 4 C dX11_isNothing_1 X kf_X11_20 0 rfl rfl rfl ?_
  refine x_iload_n 5 C dX11_isNothing_4 hl 1 rfl rfl ?_
  refine x_iald 6 C dX11_isNothing_5 X 4 rfl hf rfl (fun hf => ?_)
  refine x_if_ne 22 9 C dX11_isNothing_6 rfl rfl hf (fun hf => ?_) (fun hf => ?_)
  · refine x_iconst 23 C dX11_isNothing_22 (0 : Int32) kv_iconst_0 rfl ?_
    obtain rfl := Option.some.inj hf
    exact R _ _ _ _ X kb_0 dX11_isNothing_23
  refine x_aload_n 10 C dX11_isNothing_9 hl 0 rfl rfl ?_
  refine x_get 13 C dX11_isNothing_10 X kf_X11_24 0 rfl rfl rfl ?_
  refine x_iload_n 14 C dX11_isNothing_13 hl 1 rfl rfl ?_
  refine x_iald 15 C dX11_isNothing_14 X 5 rfl hf rfl (fun hf => ?_)
  refine x_if_ne 22 18 C dX11_isNothing_15 rfl rfl hf (fun hf => ?_) (fun hf => ?_)
  · refine x_iconst 23 C dX11_isNothing_22 (0 : Int32) kv_iconst_0 rfl ?_
    obtain rfl := Option.some.inj hf
    exact R _ _ _ _ X kb_0 dX11_isNothing_23
  refine x_iconst 19 C dX11_isNothing_18 (1 : Int32) kv_iconst_1 rfl ?_
  refine x_goto 23 C dX11_isNothing_19 rfl ?_
  obtain rfl := Option.some.inj hf
  exact R _ _ _ _ X kb_1 dX11_isNothing_23
set_option maxHeartbeats 4000000 in
set_option maxRecDepth 100000 in
theorem w_X11_work_105 {E : KE} {A : Nat → Prop} {D : va_G} {T : KT} (h : Nat → Nat) (C : kx_C E cX11_work 9 (some .int) RX11 5 146 D T) (N : Nat) (x : Int32 × Int64 × Int64 × Int32 × (Nat → Int32) × (Nat → Int32) × (Nat → Int32)) (m_taped m_states m_primes m_ones m_unit : Int32) (m_allParts m_allNorms m_allClasses : Int64) (m_odd : Int32) (m_boxWide m_boxHigh m_boxStep : Int64) (m_partingMany : Int32) (m_qa m_qb m_la m_lb m_sa m_sb m_ta m_tb : Int64) (m_listed m_tells m_wanted m_found : Int32) (m_bits : Int64) (m_power2 m_rings m_ringA m_ringB m_seedNow : Int32) (m_tape m_keptHas m_keptFirst m_keptSecond m_pa m_pb m_pNorm m_cubed m_isOpen m_signs m_often m_la0 m_lb0 : Nat → Int32) (R : kx_RI E cX11_work D A (wM T h m_taped m_states x.2.1 x.2.2.1 x.2.2.2.1 m_primes m_ones m_unit m_allParts m_allNorms m_allClasses m_odd m_boxWide m_boxHigh m_boxStep m_partingMany m_qa m_qb m_la m_lb m_sa m_sb m_ta m_tb m_listed m_tells m_wanted m_found m_bits m_power2 m_rings m_ringA m_ringB m_seedNow m_tape x.2.2.2.2.1 m_keptHas x.2.2.2.2.2.1 x.2.2.2.2.2.2 m_keptFirst m_keptSecond m_pa m_pb m_pNorm m_cubed m_isOpen m_signs m_often m_la0 m_lb0) x.1) : ∀ (m_ra m_rb : Int64) (m_threes : Int32) (m_has m_first m_second : Nat → Int32) (v1 v2 v3 v4 : Int32) (H : Heap) (locs : List Loc) (ls : Array Slot), kx_H E D A H locs (wM T h m_taped m_states m_ra m_rb m_threes m_primes m_ones m_unit m_allParts m_allNorms m_allClasses m_odd m_boxWide m_boxHigh m_boxStep m_partingMany m_qa m_qb m_la m_lb m_sa m_sb m_ta m_tb m_listed m_tells m_wanted m_found m_bits m_power2 m_rings m_ringA m_ringB m_seedNow m_tape m_has m_keptHas m_first m_second m_keptFirst m_keptSecond m_pa m_pb m_pNorm m_cubed m_isOpen m_signs m_often m_la0 m_lb0) → lv_has ls 9 [(0, .ref (h 0)), (1, .int v1), (2, .int v2), (3, .int v3), (4, .int v4)] → f_X11_work_105 N v1 v2 v3 v4 m_threes m_has m_first m_second = some x → kx_W E H locs 105 ls [] := by
  intro m_ra m_rb m_threes m_has m_first m_second v1 v2 v3 v4 H locs ls X hl hf
  rw [f_X11_work_105] at hf
  refine x_aload_n 106 C dX11_work_105 hl 0 rfl rfl ?_
  refine x_get 109 C dX11_work_106 X kf_X11_20 0 rfl rfl rfl ?_
  refine x_iload_n 110 C dX11_work_109 hl 1 rfl rfl ?_
  refine x_iald 111 C dX11_work_110 X 4 rfl hf rfl (fun hf => ?_)
  refine x_istore 113 C dX11_work_111 [(5, .int (m_first (v1).toNatClampNeg)), (0, .ref (h 0)), (1, .int v1), (2, .int v2), (3, .int v3), (4, .int v4)] hl rfl rfl rfl (fun ls hl => ?_)
  refine x_aload_n 114 C dX11_work_113 hl 1 rfl rfl ?_
  refine x_get 117 C dX11_work_114 X kf_X11_24 0 rfl rfl rfl ?_
  refine x_iload_n 118 C dX11_work_117 hl 2 rfl rfl ?_
  refine x_iald 119 C dX11_work_118 X 5 rfl hf rfl (fun hf => ?_)
  refine x_istore 121 C dX11_work_119 [(6, .int (m_second (v1).toNatClampNeg)), (5, .int (m_first (v1).toNatClampNeg)), (0, .ref (h 0)), (1, .int v1), (2, .int v2), (3, .int v3), (4, .int v4)] hl rfl rfl rfl (fun ls hl => ?_)
  refine x_aload_n 122 C dX11_work_121 hl 2 rfl rfl ?_
  refine x_get 125 C dX11_work_122 X kf_X11_20 0 rfl rfl rfl ?_
  refine x_iload_n 126 C dX11_work_125 hl 4 rfl rfl ?_
  refine x_iald 127 C dX11_work_126 X 4 rfl hf rfl (fun hf => ?_)
  refine x_istore 129 C dX11_work_127 [(7, .int (m_first (v2).toNatClampNeg)), (6, .int (m_second (v1).toNatClampNeg)), (5, .int (m_first (v1).toNatClampNeg)), (0, .ref (h 0)), (1, .int v1), (2, .int v2), (3, .int v3), (4, .int v4)] hl rfl rfl rfl (fun ls hl => ?_)
  refine x_aload_n 130 C dX11_work_129 hl 3 rfl rfl ?_
  refine x_get 133 C dX11_work_130 X kf_X11_24 0 rfl rfl rfl ?_
  refine x_iload_n 134 C dX11_work_133 hl 5 rfl rfl ?_
  refine x_iald 135 C dX11_work_134 X 5 rfl hf rfl (fun hf => ?_)
  refine x_istore 137 C dX11_work_135 [(8, .int (m_second (v2).toNatClampNeg)), (7, .int (m_first (v2).toNatClampNeg)), (6, .int (m_second (v1).toNatClampNeg)), (5, .int (m_first (v1).toNatClampNeg)), (0, .ref (h 0)), (1, .int v1), (2, .int v2), (3, .int v3), (4, .int v4)] hl rfl rfl rfl (fun ls hl => ?_)
  refine x_iload 139 C dX11_work_137 hl 8 rfl rfl ?_
  refine kx_sw hf (fun hs0 hf => ?_) (fun hs0 hf => ?_)
  · refine x_table (off := 33) 172 C dX11_work_139 (0 : Int32) hs0 (by decide) (by decide) (by decide) rfl ?_
    refine x_aload_n 173 C dX11_work_172 hl 4 rfl rfl ?_
    refine x_iload 175 C dX11_work_173 hl 3 rfl rfl ?_
    refine x_iload 177 C dX11_work_175 hl 1 rfl rfl ?_
    refine x_iadd 178 C dX11_work_177 rfl ?_
    refine x_i2l 179 C dX11_work_178 rfl ?_
    refine x_iload 181 C dX11_work_179 hl 2 rfl rfl ?_
    refine x_iload 183 C dX11_work_181 hl 0 rfl rfl ?_
    refine x_iadd 184 C dX11_work_183 rfl ?_
    refine x_i2l 185 C dX11_work_184 rfl ?_
    obtain ⟨y185, hy185, hf⟩ := kx_bind hf
    refine x_callVv0 188 C dX11_work_185 X hl kl_X11_115 (c_X11_sets E.2.1 D T h (((m_first (v1).toNatClampNeg) + (m_first (v2).toNatClampNeg))).toInt64 (((m_second (v1).toNatClampNeg) + (m_second (v2).toNatClampNeg))).toInt64 m_taped m_states m_ra m_rb m_threes m_primes m_ones m_unit m_allParts m_allNorms m_allClasses m_odd m_boxWide m_boxHigh m_boxStep m_partingMany m_qa m_qb m_la m_lb m_sa m_sb m_ta m_tb m_listed m_tells m_wanted m_found m_bits m_power2 m_rings m_ringA m_ringB m_seedNow m_tape m_has m_keptHas m_first m_second m_keptFirst m_keptSecond m_pa m_pb m_pNorm m_cubed m_isOpen m_signs m_often m_la0 m_lb0 y185 hy185) rfl rfl [] rfl rfl rfl rfl rfl rfl (fun H locs X => ?_)
    refine x_goto 295 C dX11_work_188 rfl ?_
    refine x_aload_n 296 C dX11_work_295 hl 4 rfl rfl ?_
    refine x_iload_n 297 C dX11_work_296 hl 7 rfl rfl ?_
    obtain ⟨y297, hy297, hf⟩ := kx_bind hf
    refine x_callVi0 300 C dX11_work_297 X hl kl_X11_184 (c_X11_takes E.2.1 D T h v3 m_taped m_states y185.1 y185.2 m_threes m_primes m_ones m_unit m_allParts m_allNorms m_allClasses m_odd m_boxWide m_boxHigh m_boxStep m_partingMany m_qa m_qb m_la m_lb m_sa m_sb m_ta m_tb m_listed m_tells m_wanted m_found m_bits m_power2 m_rings m_ringA m_ringB m_seedNow m_tape m_has m_keptHas m_first m_second m_keptFirst m_keptSecond m_pa m_pb m_pNorm m_cubed m_isOpen m_signs m_often m_la0 m_lb0 y297 hy297) rfl rfl [] rfl rfl rfl rfl rfl rfl (fun H locs X => ?_)
    obtain rfl := Option.some.inj hf
    exact R _ _ _ _ X dX11_work_300
  refine kx_sw hf (fun hs1 hf => ?_) (fun hs1 hf => ?_)
  · refine x_table (off := 52) 191 C dX11_work_139 (1 : Int32) hs1 (by decide) (by decide) (by decide) rfl ?_
    refine x_aload_n 192 C dX11_work_191 hl 4 rfl rfl ?_
    refine x_iload 194 C dX11_work_192 hl 3 rfl rfl ?_
    refine x_iload 196 C dX11_work_194 hl 1 rfl rfl ?_
    refine x_isub 197 C dX11_work_196 rfl ?_
    refine x_i2l 198 C dX11_work_197 rfl ?_
    refine x_iload 200 C dX11_work_198 hl 2 rfl rfl ?_
    refine x_iload 202 C dX11_work_200 hl 0 rfl rfl ?_
    refine x_isub 203 C dX11_work_202 rfl ?_
    refine x_i2l 204 C dX11_work_203 rfl ?_
    obtain ⟨y204, hy204, hf⟩ := kx_bind hf
    refine x_callVv0 207 C dX11_work_204 X hl kl_X11_115 (c_X11_sets E.2.1 D T h (((m_first (v1).toNatClampNeg) - (m_first (v2).toNatClampNeg))).toInt64 (((m_second (v1).toNatClampNeg) - (m_second (v2).toNatClampNeg))).toInt64 m_taped m_states m_ra m_rb m_threes m_primes m_ones m_unit m_allParts m_allNorms m_allClasses m_odd m_boxWide m_boxHigh m_boxStep m_partingMany m_qa m_qb m_la m_lb m_sa m_sb m_ta m_tb m_listed m_tells m_wanted m_found m_bits m_power2 m_rings m_ringA m_ringB m_seedNow m_tape m_has m_keptHas m_first m_second m_keptFirst m_keptSecond m_pa m_pb m_pNorm m_cubed m_isOpen m_signs m_often m_la0 m_lb0 y204 hy204) rfl rfl [] rfl rfl rfl rfl rfl rfl (fun H locs X => ?_)
    refine x_goto 295 C dX11_work_207 rfl ?_
    refine x_aload_n 296 C dX11_work_295 hl 4 rfl rfl ?_
    refine x_iload_n 297 C dX11_work_296 hl 7 rfl rfl ?_
    obtain ⟨y297, hy297, hf⟩ := kx_bind hf
    refine x_callVi0 300 C dX11_work_297 X hl kl_X11_184 (c_X11_takes E.2.1 D T h v3 m_taped m_states y204.1 y204.2 m_threes m_primes m_ones m_unit m_allParts m_allNorms m_allClasses m_odd m_boxWide m_boxHigh m_boxStep m_partingMany m_qa m_qb m_la m_lb m_sa m_sb m_ta m_tb m_listed m_tells m_wanted m_found m_bits m_power2 m_rings m_ringA m_ringB m_seedNow m_tape m_has m_keptHas m_first m_second m_keptFirst m_keptSecond m_pa m_pb m_pNorm m_cubed m_isOpen m_signs m_often m_la0 m_lb0 y297 hy297) rfl rfl [] rfl rfl rfl rfl rfl rfl (fun H locs X => ?_)
    obtain rfl := Option.some.inj hf
    exact R _ _ _ _ X dX11_work_300
  refine kx_sw hf (fun hs2 hf => ?_) (fun hs2 hf => ?_)
  · refine x_table (off := 71) 210 C dX11_work_139 (2 : Int32) hs2 (by decide) (by decide) (by decide) rfl ?_
    refine x_aload_n 211 C dX11_work_210 hl 4 rfl rfl ?_
    refine x_iload 213 C dX11_work_211 hl 3 rfl rfl ?_
    refine x_i2l 214 C dX11_work_213 rfl ?_
    refine x_iload 216 C dX11_work_214 hl 2 rfl rfl ?_
    refine x_i2l 217 C dX11_work_216 rfl ?_
    refine x_iload 219 C dX11_work_217 hl 1 rfl rfl ?_
    refine x_i2l 220 C dX11_work_219 rfl ?_
    refine x_iload 222 C dX11_work_220 hl 0 rfl rfl ?_
    refine x_i2l 223 C dX11_work_222 rfl ?_
    obtain ⟨y223, hy223, hf⟩ := kx_bind hf
    refine x_callVv0 226 C dX11_work_223 X hl kl_X11_121 (c_X11_times E.2.1 D T h ((m_first (v1).toNatClampNeg)).toInt64 ((m_second (v1).toNatClampNeg)).toInt64 ((m_first (v2).toNatClampNeg)).toInt64 ((m_second (v2).toNatClampNeg)).toInt64 m_taped m_states m_ra m_rb m_threes m_primes m_ones m_unit m_allParts m_allNorms m_allClasses m_odd m_boxWide m_boxHigh m_boxStep m_partingMany m_qa m_qb m_la m_lb m_sa m_sb m_ta m_tb m_listed m_tells m_wanted m_found m_bits m_power2 m_rings m_ringA m_ringB m_seedNow m_tape m_has m_keptHas m_first m_second m_keptFirst m_keptSecond m_pa m_pb m_pNorm m_cubed m_isOpen m_signs m_often m_la0 m_lb0 y223 hy223) rfl rfl [] rfl rfl rfl rfl rfl rfl (fun H locs X => ?_)
    refine x_goto 295 C dX11_work_226 rfl ?_
    refine x_aload_n 296 C dX11_work_295 hl 4 rfl rfl ?_
    refine x_iload_n 297 C dX11_work_296 hl 7 rfl rfl ?_
    obtain ⟨y297, hy297, hf⟩ := kx_bind hf
    refine x_callVi0 300 C dX11_work_297 X hl kl_X11_184 (c_X11_takes E.2.1 D T h v3 m_taped m_states y223.1 y223.2 m_threes m_primes m_ones m_unit m_allParts m_allNorms m_allClasses m_odd m_boxWide m_boxHigh m_boxStep m_partingMany m_qa m_qb m_la m_lb m_sa m_sb m_ta m_tb m_listed m_tells m_wanted m_found m_bits m_power2 m_rings m_ringA m_ringB m_seedNow m_tape m_has m_keptHas m_first m_second m_keptFirst m_keptSecond m_pa m_pb m_pNorm m_cubed m_isOpen m_signs m_often m_la0 m_lb0 y297 hy297) rfl rfl [] rfl rfl rfl rfl rfl rfl (fun H locs X => ?_)
    obtain rfl := Option.some.inj hf
    exact R _ _ _ _ X dX11_work_300
  refine kx_sw hf (fun hs3 hf => ?_) (fun hs3 hf => ?_)
  · refine x_table (off := 90) 229 C dX11_work_139 (3 : Int32) hs3 (by decide) (by decide) (by decide) rfl ?_
    refine x_aload_n 230 C dX11_work_229 hl 4 rfl rfl ?_
    refine x_iload 232 C dX11_work_230 hl 3 rfl rfl ?_
    refine x_i2l 233 C dX11_work_232 rfl ?_
    refine x_iload 235 C dX11_work_233 hl 2 rfl rfl ?_
    refine x_i2l 236 C dX11_work_235 rfl ?_
    refine x_iload 238 C dX11_work_236 hl 1 rfl rfl ?_
    refine x_i2l 239 C dX11_work_238 rfl ?_
    refine x_iload 241 C dX11_work_239 hl 0 rfl rfl ?_
    refine x_i2l 242 C dX11_work_241 rfl ?_
    obtain ⟨y242, hy242, hf⟩ := kx_bind hf
    refine x_callVv0 245 C dX11_work_242 X hl kl_X11_128 (c_X11_parts E.2.1 D T h ((m_first (v1).toNatClampNeg)).toInt64 ((m_second (v1).toNatClampNeg)).toInt64 ((m_first (v2).toNatClampNeg)).toInt64 ((m_second (v2).toNatClampNeg)).toInt64 m_taped m_states m_ra m_rb m_threes m_primes m_ones m_unit m_allParts m_allNorms m_allClasses m_odd m_boxWide m_boxHigh m_boxStep m_partingMany m_qa m_qb m_la m_lb m_sa m_sb m_ta m_tb m_listed m_tells m_wanted m_found m_bits m_power2 m_rings m_ringA m_ringB m_seedNow m_tape m_has m_keptHas m_first m_second m_keptFirst m_keptSecond m_pa m_pb m_pNorm m_cubed m_isOpen m_signs m_often m_la0 m_lb0 y242 hy242) rfl rfl [] rfl rfl rfl rfl rfl rfl (fun H locs X => ?_)
    refine x_goto 295 C dX11_work_245 rfl ?_
    refine x_aload_n 296 C dX11_work_295 hl 4 rfl rfl ?_
    refine x_iload_n 297 C dX11_work_296 hl 7 rfl rfl ?_
    obtain ⟨y297, hy297, hf⟩ := kx_bind hf
    refine x_callVi0 300 C dX11_work_297 X hl kl_X11_184 (c_X11_takes E.2.1 D T h v3 m_taped m_states y242.1 y242.2 m_threes m_primes m_ones m_unit m_allParts m_allNorms m_allClasses m_odd m_boxWide m_boxHigh m_boxStep m_partingMany m_qa m_qb m_la m_lb m_sa m_sb m_ta m_tb m_listed m_tells m_wanted m_found m_bits m_power2 m_rings m_ringA m_ringB m_seedNow m_tape m_has m_keptHas m_first m_second m_keptFirst m_keptSecond m_pa m_pb m_pNorm m_cubed m_isOpen m_signs m_often m_la0 m_lb0 y297 hy297) rfl rfl [] rfl rfl rfl rfl rfl rfl (fun H locs X => ?_)
    obtain rfl := Option.some.inj hf
    exact R _ _ _ _ X dX11_work_300
  refine kx_sw hf (fun hs4 hf => ?_) (fun hs4 hf => ?_)
  · refine x_table (off := 109) 248 C dX11_work_139 (4 : Int32) hs4 (by decide) (by decide) (by decide) rfl ?_
    refine x_aload_n 249 C dX11_work_248 hl 4 rfl rfl ?_
    refine x_iload 251 C dX11_work_249 hl 3 rfl rfl ?_
    refine x_i2l 252 C dX11_work_251 rfl ?_
    refine x_iload 254 C dX11_work_252 hl 2 rfl rfl ?_
    refine x_i2l 255 C dX11_work_254 rfl ?_
    refine x_iload 257 C dX11_work_255 hl 1 rfl rfl ?_
    refine x_i2l 258 C dX11_work_257 rfl ?_
    refine x_iload 260 C dX11_work_258 hl 0 rfl rfl ?_
    refine x_i2l 261 C dX11_work_260 rfl ?_
    obtain ⟨y261, hy261, hf⟩ := kx_bind hf
    refine x_callVv0 264 C dX11_work_261 X hl kl_X11_131 (c_X11_rests E.2.1 D T h ((m_first (v1).toNatClampNeg)).toInt64 ((m_second (v1).toNatClampNeg)).toInt64 ((m_first (v2).toNatClampNeg)).toInt64 ((m_second (v2).toNatClampNeg)).toInt64 m_taped m_states m_ra m_rb m_threes m_primes m_ones m_unit m_allParts m_allNorms m_allClasses m_odd m_boxWide m_boxHigh m_boxStep m_partingMany m_qa m_qb m_la m_lb m_sa m_sb m_ta m_tb m_listed m_tells m_wanted m_found m_bits m_power2 m_rings m_ringA m_ringB m_seedNow m_tape m_has m_keptHas m_first m_second m_keptFirst m_keptSecond m_pa m_pb m_pNorm m_cubed m_isOpen m_signs m_often m_la0 m_lb0 y261 hy261) rfl rfl [] rfl rfl rfl rfl rfl rfl (fun H locs X => ?_)
    refine x_goto 295 C dX11_work_264 rfl ?_
    refine x_aload_n 296 C dX11_work_295 hl 4 rfl rfl ?_
    refine x_iload_n 297 C dX11_work_296 hl 7 rfl rfl ?_
    obtain ⟨y297, hy297, hf⟩ := kx_bind hf
    refine x_callVi0 300 C dX11_work_297 X hl kl_X11_184 (c_X11_takes E.2.1 D T h v3 m_taped m_states y261.1 y261.2 m_threes m_primes m_ones m_unit m_allParts m_allNorms m_allClasses m_odd m_boxWide m_boxHigh m_boxStep m_partingMany m_qa m_qb m_la m_lb m_sa m_sb m_ta m_tb m_listed m_tells m_wanted m_found m_bits m_power2 m_rings m_ringA m_ringB m_seedNow m_tape m_has m_keptHas m_first m_second m_keptFirst m_keptSecond m_pa m_pb m_pNorm m_cubed m_isOpen m_signs m_often m_la0 m_lb0 y297 hy297) rfl rfl [] rfl rfl rfl rfl rfl rfl (fun H locs X => ?_)
    obtain rfl := Option.some.inj hf
    exact R _ _ _ _ X dX11_work_300
  refine x_tableOut 267 C dX11_work_139 (by have hn0 := lv_neT (a := 0) hs0 (by decide); have hn1 := lv_neT (a := 1) hs1 (by decide); have hn2 := lv_neT (a := 2) hs2 (by decide); have hn3 := lv_neT (a := 3) hs3 (by decide); have hn4 := lv_neT (a := 4) hs4 (by decide); omega) rfl ?_
  refine x_aload_n 268 C dX11_work_267 hl 4 rfl rfl ?_
  refine x_iload 270 C dX11_work_268 hl 3 rfl rfl ?_
  refine x_i2l 271 C dX11_work_270 rfl ?_
  refine x_iload 273 C dX11_work_271 hl 2 rfl rfl ?_
  refine x_i2l 274 C dX11_work_273 rfl ?_
  refine x_iload 276 C dX11_work_274 hl 1 rfl rfl ?_
  refine x_i2l 277 C dX11_work_276 rfl ?_
  refine x_iload 279 C dX11_work_277 hl 0 rfl rfl ?_
  refine x_i2l 280 C dX11_work_279 rfl ?_
  obtain ⟨y280, hy280, hf⟩ := kx_bind hf
  refine x_callVv0 283 C dX11_work_280 X hl kl_X11_153 (c_X11_commons E.2.1 D T h N ((m_first (v1).toNatClampNeg)).toInt64 ((m_second (v1).toNatClampNeg)).toInt64 ((m_first (v2).toNatClampNeg)).toInt64 ((m_second (v2).toNatClampNeg)).toInt64 m_taped m_states m_ra m_rb m_threes m_primes m_ones m_unit m_allParts m_allNorms m_allClasses m_odd m_boxWide m_boxHigh m_boxStep m_partingMany m_qa m_qb m_la m_lb m_sa m_sb m_ta m_tb m_listed m_tells m_wanted m_found m_bits m_power2 m_rings m_ringA m_ringB m_seedNow m_tape m_has m_keptHas m_first m_second m_keptFirst m_keptSecond m_pa m_pb m_pNorm m_cubed m_isOpen m_signs m_often m_la0 m_lb0 y280 hy280) rfl rfl [] rfl rfl rfl rfl rfl rfl (fun H locs X => ?_)
  refine x_aload_n 284 C dX11_work_283 hl 4 rfl rfl ?_
  refine x_aload_n 285 C dX11_work_284 hl 4 rfl rfl ?_
  refine x_get 288 C dX11_work_285 X kf_X11_105 0 rfl rfl rfl ?_
  refine x_aload_n 289 C dX11_work_288 hl 4 rfl rfl ?_
  refine x_get 292 C dX11_work_289 X kf_X11_109 0 rfl rfl rfl ?_
  obtain ⟨y292, hy292, hf⟩ := kx_bind hf
  refine x_callVv0 295 C dX11_work_292 X hl kl_X11_181 (c_X11_owns E.2.1 D T h N y280.1 y280.2 m_taped m_states y280.1 y280.2 m_threes m_primes m_ones m_unit m_allParts m_allNorms m_allClasses m_odd m_boxWide m_boxHigh m_boxStep m_partingMany m_qa m_qb m_la m_lb m_sa m_sb m_ta m_tb m_listed m_tells m_wanted m_found m_bits m_power2 m_rings m_ringA m_ringB m_seedNow m_tape m_has m_keptHas m_first m_second m_keptFirst m_keptSecond m_pa m_pb m_pNorm m_cubed m_isOpen m_signs m_often m_la0 m_lb0 y292 hy292) rfl rfl [] rfl rfl rfl rfl rfl rfl (fun H locs X => ?_)
  refine x_aload_n 296 C dX11_work_295 hl 4 rfl rfl ?_
  refine x_iload_n 297 C dX11_work_296 hl 7 rfl rfl ?_
  obtain ⟨y297, hy297, hf⟩ := kx_bind hf
  refine x_callVi0 300 C dX11_work_297 X hl kl_X11_184 (c_X11_takes E.2.1 D T h v3 m_taped m_states y292.1 y292.2.1 y292.2.2 m_primes m_ones m_unit m_allParts m_allNorms m_allClasses m_odd m_boxWide m_boxHigh m_boxStep m_partingMany m_qa m_qb m_la m_lb m_sa m_sb m_ta m_tb m_listed m_tells m_wanted m_found m_bits m_power2 m_rings m_ringA m_ringB m_seedNow m_tape m_has m_keptHas m_first m_second m_keptFirst m_keptSecond m_pa m_pb m_pNorm m_cubed m_isOpen m_signs m_often m_la0 m_lb0 y297 hy297) rfl rfl [] rfl rfl rfl rfl rfl rfl (fun H locs X => ?_)
  obtain rfl := Option.some.inj hf
  exact R _ _ _ _ X dX11_work_300
set_option maxHeartbeats 4000000 in
set_option maxRecDepth 100000 in
theorem w_X11_work_80 {E : KE} {A : Nat → Prop} {D : va_G} {T : KT} (h : Nat → Nat) (C : kx_C E cX11_work 9 (some .int) RX11 5 146 D T) (N : Nat) (x : Int32 × Int64 × Int64 × Int32 × (Nat → Int32) × (Nat → Int32) × (Nat → Int32)) (m_taped m_states m_primes m_ones m_unit : Int32) (m_allParts m_allNorms m_allClasses : Int64) (m_odd : Int32) (m_boxWide m_boxHigh m_boxStep : Int64) (m_partingMany : Int32) (m_qa m_qb m_la m_lb m_sa m_sb m_ta m_tb : Int64) (m_listed m_tells m_wanted m_found : Int32) (m_bits : Int64) (m_power2 m_rings m_ringA m_ringB m_seedNow : Int32) (m_tape m_keptHas m_keptFirst m_keptSecond m_pa m_pb m_pNorm m_cubed m_isOpen m_signs m_often m_la0 m_lb0 : Nat → Int32) (R : kx_RI E cX11_work D A (wM T h m_taped m_states x.2.1 x.2.2.1 x.2.2.2.1 m_primes m_ones m_unit m_allParts m_allNorms m_allClasses m_odd m_boxWide m_boxHigh m_boxStep m_partingMany m_qa m_qb m_la m_lb m_sa m_sb m_ta m_tb m_listed m_tells m_wanted m_found m_bits m_power2 m_rings m_ringA m_ringB m_seedNow m_tape x.2.2.2.2.1 m_keptHas x.2.2.2.2.2.1 x.2.2.2.2.2.2 m_keptFirst m_keptSecond m_pa m_pb m_pNorm m_cubed m_isOpen m_signs m_often m_la0 m_lb0) x.1) : ∀ (m_ra m_rb : Int64) (m_threes : Int32) (m_has m_first m_second : Nat → Int32) (v1 v2 v3 v4 : Int32) (H : Heap) (locs : List Loc) (ls : Array Slot), kx_H E D A H locs (wM T h m_taped m_states m_ra m_rb m_threes m_primes m_ones m_unit m_allParts m_allNorms m_allClasses m_odd m_boxWide m_boxHigh m_boxStep m_partingMany m_qa m_qb m_la m_lb m_sa m_sb m_ta m_tb m_listed m_tells m_wanted m_found m_bits m_power2 m_rings m_ringA m_ringB m_seedNow m_tape m_has m_keptHas m_first m_second m_keptFirst m_keptSecond m_pa m_pb m_pNorm m_cubed m_isOpen m_signs m_often m_la0 m_lb0) → lv_has ls 9 [(0, .ref (h 0)), (1, .int v1), (2, .int v2), (3, .int v3), (4, .int v4)] → f_X11_work_80 N v1 v2 v3 v4 m_ra m_rb m_threes m_has m_first m_second = some x → kx_W E H locs 80 ls [] := by
  intro m_ra m_rb m_threes m_has m_first m_second v1 v2 v3 v4 H locs ls X hl hf
  rw [f_X11_work_80] at hf
  refine x_iload 82 C dX11_work_80 hl 4 rfl rfl ?_
  refine x_iconst 83 C dX11_work_82 (5 : Int32) kv_iconst_5 rfl ?_
  refine x_icmp_ne 105 86 C dX11_work_83 rfl rfl hf (fun hf => ?_) (fun hf => ?_)
  · exact w_X11_work_105 h C N x m_taped m_states m_primes m_ones m_unit m_allParts m_allNorms m_allClasses m_odd m_boxWide m_boxHigh m_boxStep m_partingMany m_qa m_qb m_la m_lb m_sa m_sb m_ta m_tb m_listed m_tells m_wanted m_found m_bits m_power2 m_rings m_ringA m_ringB m_seedNow m_tape m_keptHas m_keptFirst m_keptSecond m_pa m_pb m_pNorm m_cubed m_isOpen m_signs m_often m_la0 m_lb0 R  m_ra m_rb m_threes m_has m_first m_second v1 v2 v3 v4 _ _ _ X (lv_sub hl [0, 1, 2, 3, 4] rfl) hf
  refine x_aload_n 87 C dX11_work_86 hl 0 rfl rfl ?_
  refine x_iload_n 88 C dX11_work_87 hl 1 rfl rfl ?_
  obtain ⟨y88, hy88, hf⟩ := kx_bind hf
  refine x_callVi0 91 C dX11_work_88 X hl kl_X11_178 (c_X11_isNothing E.2.1 D T h v1 m_taped m_states m_ra m_rb m_threes m_primes m_ones m_unit m_allParts m_allNorms m_allClasses m_odd m_boxWide m_boxHigh m_boxStep m_partingMany m_qa m_qb m_la m_lb m_sa m_sb m_ta m_tb m_listed m_tells m_wanted m_found m_bits m_power2 m_rings m_ringA m_ringB m_seedNow m_tape m_has m_keptHas m_first m_second m_keptFirst m_keptSecond m_pa m_pb m_pNorm m_cubed m_isOpen m_signs m_often m_la0 m_lb0 y88 hy88) rfl rfl [] rfl rfl rfl rfl rfl rfl (fun H locs X => ?_)
  refine x_if_eq 105 94 C dX11_work_91 rfl rfl hf (fun hf => ?_) (fun hf => ?_)
  · exact w_X11_work_105 h C N x m_taped m_states m_primes m_ones m_unit m_allParts m_allNorms m_allClasses m_odd m_boxWide m_boxHigh m_boxStep m_partingMany m_qa m_qb m_la m_lb m_sa m_sb m_ta m_tb m_listed m_tells m_wanted m_found m_bits m_power2 m_rings m_ringA m_ringB m_seedNow m_tape m_keptHas m_keptFirst m_keptSecond m_pa m_pb m_pNorm m_cubed m_isOpen m_signs m_often m_la0 m_lb0 R  m_ra m_rb m_threes m_has m_first m_second v1 v2 v3 v4 _ _ _ X (lv_sub hl [0, 1, 2, 3, 4] rfl) hf
  refine x_aload_n 95 C dX11_work_94 hl 0 rfl rfl ?_
  refine x_iload_n 96 C dX11_work_95 hl 2 rfl rfl ?_
  obtain ⟨y96, hy96, hf⟩ := kx_bind hf
  refine x_callVi0 99 C dX11_work_96 X hl kl_X11_178 (c_X11_isNothing E.2.1 D T h v2 m_taped m_states m_ra m_rb m_threes m_primes m_ones m_unit m_allParts m_allNorms m_allClasses m_odd m_boxWide m_boxHigh m_boxStep m_partingMany m_qa m_qb m_la m_lb m_sa m_sb m_ta m_tb m_listed m_tells m_wanted m_found m_bits m_power2 m_rings m_ringA m_ringB m_seedNow m_tape m_has m_keptHas m_first m_second m_keptFirst m_keptSecond m_pa m_pb m_pNorm m_cubed m_isOpen m_signs m_often m_la0 m_lb0 y96 hy96) rfl rfl [] rfl rfl rfl rfl rfl rfl (fun H locs X => ?_)
  refine x_if_eq 105 102 C dX11_work_99 rfl rfl hf (fun hf => ?_) (fun hf => ?_)
  · exact w_X11_work_105 h C N x m_taped m_states m_primes m_ones m_unit m_allParts m_allNorms m_allClasses m_odd m_boxWide m_boxHigh m_boxStep m_partingMany m_qa m_qb m_la m_lb m_sa m_sb m_ta m_tb m_listed m_tells m_wanted m_found m_bits m_power2 m_rings m_ringA m_ringB m_seedNow m_tape m_keptHas m_keptFirst m_keptSecond m_pa m_pb m_pNorm m_cubed m_isOpen m_signs m_often m_la0 m_lb0 R  m_ra m_rb m_threes m_has m_first m_second v1 v2 v3 v4 _ _ _ X (lv_sub hl [0, 1, 2, 3, 4] rfl) hf
  refine x_bipush 104 C dX11_work_102 (-3 : Int32) kv_bipush_m3 rfl ?_
  obtain rfl := Option.some.inj hf
  exact R _ _ _ _ X dX11_work_104
set_option maxHeartbeats 4000000 in
set_option maxRecDepth 100000 in
theorem c_X11_work (l : Launch) (D : va_G) (T : KT) (h : Nat → Nat) (N : Nat) (v1 v2 v3 v4 : Int32) (m_taped m_states : Int32) (m_ra m_rb : Int64) (m_threes m_primes m_ones m_unit : Int32) (m_allParts m_allNorms m_allClasses : Int64) (m_odd : Int32) (m_boxWide m_boxHigh m_boxStep : Int64) (m_partingMany : Int32) (m_qa m_qb m_la m_lb m_sa m_sb m_ta m_tb : Int64) (m_listed m_tells m_wanted m_found : Int32) (m_bits : Int64) (m_power2 m_rings m_ringA m_ringB m_seedNow : Int32) (m_tape m_has m_keptHas m_first m_second m_keptFirst m_keptSecond m_pa m_pb m_pNorm m_cubed m_isOpen m_signs m_often m_la0 m_lb0 : Nat → Int32) (x : Int32 × Int64 × Int64 × Int32 × (Nat → Int32) × (Nat → Int32) × (Nat → Int32)) (hf : f_X11_work N v1 v2 v3 v4 m_ra m_rb m_threes m_has m_first m_second = some x) : kx_MI l yX11_work cX11_work 9 (some .int) 5 146 D T [.ref (h 0), .int v1, .int v2, .int v3, .int v4] (wM T h m_taped m_states m_ra m_rb m_threes m_primes m_ones m_unit m_allParts m_allNorms m_allClasses m_odd m_boxWide m_boxHigh m_boxStep m_partingMany m_qa m_qb m_la m_lb m_sa m_sb m_ta m_tb m_listed m_tells m_wanted m_found m_bits m_power2 m_rings m_ringA m_ringB m_seedNow m_tape m_has m_keptHas m_first m_second m_keptFirst m_keptSecond m_pa m_pb m_pNorm m_cubed m_isOpen m_signs m_often m_la0 m_lb0) (wM T h m_taped m_states x.2.1 x.2.2.1 x.2.2.2.1 m_primes m_ones m_unit m_allParts m_allNorms m_allClasses m_odd m_boxWide m_boxHigh m_boxStep m_partingMany m_qa m_qb m_la m_lb m_sa m_sb m_ta m_tb m_listed m_tells m_wanted m_found m_bits m_power2 m_rings m_ringA m_ringB m_seedNow m_tape x.2.2.2.2.1 m_keptHas x.2.2.2.2.2.1 x.2.2.2.2.2.2 m_keptFirst m_keptSecond m_pa m_pb m_pNorm m_cubed m_isOpen m_signs m_often m_la0 m_lb0) x.1 := by
  refine kx_ofMI RX11 rfl (plainFor_of_name (x := yX11_work) kpn_X11) rfl ?_
  intro E A H ls _ C X R hl
  have hl : lv_has ls 9 [(0, .ref (h 0)), (1, .int v1), (2, .int v2), (3, .int v3), (4, .int v4)] := hl
  rw [f_X11_work] at hf
  refine x_iload_n 1 C dX11_work_0 hl 1 rfl rfl ?_
  obtain ⟨y1, hy1, hf⟩ := kx_bind hf
  refine x_callSi 4 C dX11_work_1 X hl kl_X11_85 (c_X11_isDrawer E.2.1 D T  v1  y1 hy1) [] rfl rfl rfl rfl rfl cb_7 rfl (fun H locs X => ?_)
  refine x_if_eq 34 7 C dX11_work_4 rfl rfl hf (fun hf => ?_) (fun hf => ?_)
  · refine x_iconst 35 C dX11_work_34 (-1 : Int32) kv_iconst_m1 rfl ?_
    obtain rfl := Option.some.inj hf
    exact R _ _ _ _ X dX11_work_35
  refine x_iload_n 8 C dX11_work_7 hl 2 rfl rfl ?_
  obtain ⟨y8, hy8, hf⟩ := kx_bind hf
  refine x_callSi 11 C dX11_work_8 X hl kl_X11_85 (c_X11_isDrawer E.2.1 D T  v2  y8 hy8) [] rfl rfl rfl rfl rfl cb_7 rfl (fun H locs X => ?_)
  refine x_if_eq 34 14 C dX11_work_11 rfl rfl hf (fun hf => ?_) (fun hf => ?_)
  · refine x_iconst 35 C dX11_work_34 (-1 : Int32) kv_iconst_m1 rfl ?_
    obtain rfl := Option.some.inj hf
    exact R _ _ _ _ X dX11_work_35
  refine x_iload_n 15 C dX11_work_14 hl 3 rfl rfl ?_
  obtain ⟨y15, hy15, hf⟩ := kx_bind hf
  refine x_callSi 18 C dX11_work_15 X hl kl_X11_85 (c_X11_isDrawer E.2.1 D T  v3  y15 hy15) [] rfl rfl rfl rfl rfl cb_7 rfl (fun H locs X => ?_)
  refine x_if_eq 34 21 C dX11_work_18 rfl rfl hf (fun hf => ?_) (fun hf => ?_)
  · refine x_iconst 35 C dX11_work_34 (-1 : Int32) kv_iconst_m1 rfl ?_
    obtain rfl := Option.some.inj hf
    exact R _ _ _ _ X dX11_work_35
  refine x_iload 23 C dX11_work_21 hl 4 rfl rfl ?_
  refine x_i2l 24 C dX11_work_23 rfl ?_
  refine x_lconst 25 C dX11_work_24 (0 : Int64) kv_lconst_0 rfl ?_
  refine x_ldc2_w 28 C dX11_work_25 (5 : Int64) kc_X11_174 rfl ?_
  obtain ⟨y28, hy28, hf⟩ := kx_bind hf
  refine x_callSi 31 C dX11_work_28 X hl kl_X11_77 (c_X11_in E.2.1 D T  (v4).toInt64 (0 : Int64) (5 : Int64)  y28 hy28) [] rfl rfl rfl rfl rfl cb_7 rfl (fun H locs X => ?_)
  refine x_if_ne 36 34 C dX11_work_31 rfl rfl hf (fun hf => ?_) (fun hf => ?_)
  · refine x_aload_n 37 C dX11_work_36 hl 0 rfl rfl ?_
    refine x_get 40 C dX11_work_37 X kf_X11_13 0 rfl rfl rfl ?_
    refine x_iload_n 41 C dX11_work_40 hl 1 rfl rfl ?_
    refine x_zald 42 C dX11_work_41 X 2 rfl hf rfl (fun hf => ?_)
    refine x_if_eq 54 45 C dX11_work_42 rfl rfl hf (fun hf => ?_) (fun hf => ?_)
    · refine x_bipush 56 C dX11_work_54 (-2 : Int32) kv_bipush_m2 rfl ?_
      obtain rfl := Option.some.inj hf
      exact R _ _ _ _ X dX11_work_56
    refine x_aload_n 46 C dX11_work_45 hl 0 rfl rfl ?_
    refine x_get 49 C dX11_work_46 X kf_X11_13 0 rfl rfl rfl ?_
    refine x_iload_n 50 C dX11_work_49 hl 2 rfl rfl ?_
    refine x_zald 51 C dX11_work_50 X 2 rfl hf rfl (fun hf => ?_)
    refine x_if_ne 57 54 C dX11_work_51 rfl rfl hf (fun hf => ?_) (fun hf => ?_)
    · refine x_iload 59 C dX11_work_57 hl 4 rfl rfl ?_
      refine x_i2l 60 C dX11_work_59 rfl ?_
      refine x_ldc2_w 63 C dX11_work_60 (3 : Int64) kc_X11_134 rfl ?_
      refine x_ldc2_w 66 C dX11_work_63 (4 : Int64) kc_X11_176 rfl ?_
      obtain ⟨y66, hy66, hf⟩ := kx_bind hf
      refine x_callSi 69 C dX11_work_66 X hl kl_X11_77 (c_X11_in E.2.1 D T  (v4).toInt64 (3 : Int64) (4 : Int64)  y66 hy66) [] rfl rfl rfl rfl rfl cb_7 rfl (fun H locs X => ?_)
      refine x_if_eq 80 72 C dX11_work_69 rfl rfl hf (fun hf => ?_) (fun hf => ?_)
      · exact w_X11_work_80 h C N x m_taped m_states m_primes m_ones m_unit m_allParts m_allNorms m_allClasses m_odd m_boxWide m_boxHigh m_boxStep m_partingMany m_qa m_qb m_la m_lb m_sa m_sb m_ta m_tb m_listed m_tells m_wanted m_found m_bits m_power2 m_rings m_ringA m_ringB m_seedNow m_tape m_keptHas m_keptFirst m_keptSecond m_pa m_pb m_pNorm m_cubed m_isOpen m_signs m_often m_la0 m_lb0 R  m_ra m_rb m_threes m_has m_first m_second v1 v2 v3 v4 _ _ _ X (lv_sub hl [0, 1, 2, 3, 4] rfl) hf
      refine x_aload_n 73 C dX11_work_72 hl 0 rfl rfl ?_
      refine x_iload_n 74 C dX11_work_73 hl 2 rfl rfl ?_
      obtain ⟨y74, hy74, hf⟩ := kx_bind hf
      refine x_callVi0 77 C dX11_work_74 X hl kl_X11_178 (c_X11_isNothing E.2.1 D T h v2 m_taped m_states m_ra m_rb m_threes m_primes m_ones m_unit m_allParts m_allNorms m_allClasses m_odd m_boxWide m_boxHigh m_boxStep m_partingMany m_qa m_qb m_la m_lb m_sa m_sb m_ta m_tb m_listed m_tells m_wanted m_found m_bits m_power2 m_rings m_ringA m_ringB m_seedNow m_tape m_has m_keptHas m_first m_second m_keptFirst m_keptSecond m_pa m_pb m_pNorm m_cubed m_isOpen m_signs m_often m_la0 m_lb0 y74 hy74) rfl rfl [] rfl rfl rfl rfl rfl rfl (fun H locs X => ?_)
      refine x_if_ne 102 80 C dX11_work_77 rfl rfl hf (fun hf => ?_) (fun hf => ?_)
      · refine x_bipush 104 C dX11_work_102 (-3 : Int32) kv_bipush_m3 rfl ?_
        obtain rfl := Option.some.inj hf
        exact R _ _ _ _ X dX11_work_104
      exact w_X11_work_80 h C N x m_taped m_states m_primes m_ones m_unit m_allParts m_allNorms m_allClasses m_odd m_boxWide m_boxHigh m_boxStep m_partingMany m_qa m_qb m_la m_lb m_sa m_sb m_ta m_tb m_listed m_tells m_wanted m_found m_bits m_power2 m_rings m_ringA m_ringB m_seedNow m_tape m_keptHas m_keptFirst m_keptSecond m_pa m_pb m_pNorm m_cubed m_isOpen m_signs m_often m_la0 m_lb0 R  m_ra m_rb m_threes m_has m_first m_second v1 v2 v3 v4 _ _ _ X (lv_sub hl [0, 1, 2, 3, 4] rfl) hf
    refine x_bipush 56 C dX11_work_54 (-2 : Int32) kv_bipush_m2 rfl ?_
    obtain rfl := Option.some.inj hf
    exact R _ _ _ _ X dX11_work_56
  refine x_iconst 35 C dX11_work_34 (-1 : Int32) kv_iconst_m1 rfl ?_
  obtain rfl := Option.some.inj hf
  exact R _ _ _ _ X dX11_work_35
