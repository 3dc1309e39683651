set_option maxHeartbeats 4000000 in
set_option maxRecDepth 100000 in
theorem w_X11_middle_117 {E : KE} {A : Nat → Prop} {D : va_G} {T : KT} (h : Nat → Nat) (C : kx_C E cX11_middle 6 (some .int) RX11 1 30 D T) (N : Nat) (x : Int32 × Int64 × Int32) (m_taped m_states : Int32) (m_ra m_rb : Int64) (m_threes m_primes m_ones m_unit : Int32) (m_allParts m_allNorms m_allClasses : Int64) (m_odd : Int32) (m_boxWide m_boxHigh m_boxStep : Int64) (m_partingMany : Int32) (m_qa m_qb m_la m_lb m_sa m_sb m_ta m_tb : Int64) (m_listed m_tells m_wanted m_found m_rings m_ringA m_ringB m_seedNow : Int32) (m_tape m_has m_keptHas m_first m_second m_keptFirst m_keptSecond m_pa m_pb m_pNorm m_cubed m_isOpen m_signs m_often m_la0 m_lb0 : Nat → Int32) (R : kx_RI E cX11_middle D A (wM T h m_taped m_states m_ra m_rb m_threes m_primes m_ones m_unit m_allParts m_allNorms m_allClasses m_odd m_boxWide m_boxHigh m_boxStep m_partingMany m_qa m_qb m_la m_lb m_sa m_sb m_ta m_tb m_listed m_tells m_wanted m_found x.2.1 x.2.2 m_rings m_ringA m_ringB m_seedNow m_tape m_has m_keptHas m_first m_second m_keptFirst m_keptSecond m_pa m_pb m_pNorm m_cubed m_isOpen m_signs m_often m_la0 m_lb0) x.1) : ∀ (m_bits : Int64) (m_power2 : Int32) (v3 : Int32) (s1 : Int64) (s2 s3 : Int32) (H : Heap) (locs : List Loc) (ls : Array Slot), kx_H E D A H locs (wM T h m_taped m_states m_ra m_rb m_threes m_primes m_ones m_unit m_allParts m_allNorms m_allClasses m_odd m_boxWide m_boxHigh m_boxStep m_partingMany m_qa m_qb m_la m_lb m_sa m_sb m_ta m_tb m_listed m_tells m_wanted m_found m_bits m_power2 m_rings m_ringA m_ringB m_seedNow m_tape m_has m_keptHas m_first m_second m_keptFirst m_keptSecond m_pa m_pb m_pNorm m_cubed m_isOpen m_signs m_often m_la0 m_lb0) → lv_has ls 6 [(0, .ref (h 0)), (3, .int v3)] → f_X11_middle_117 N v3 s1 s2 s3 = some x → kx_W E H locs 117 ls [.int s3, .int s2, .long s1, .ref (h 0)] := by
  intro m_bits m_power2 v3 s1 s2 s3 H locs ls X hl hf
  rw [f_X11_middle_117] at hf
  obtain ⟨y117, hy117, hf⟩ := kx_bind hf
  refine x_callVv0 120 C dX11_middle_117 X hl kl_X11_423 (c_X11_fits E.2.1 D T h N s1 s2 s3 m_taped m_states m_ra m_rb m_threes m_primes m_ones m_unit m_allParts m_allNorms m_allClasses m_odd m_boxWide m_boxHigh m_boxStep m_partingMany m_qa m_qb m_la m_lb m_sa m_sb m_ta m_tb m_listed m_tells m_wanted m_found m_bits m_power2 m_rings m_ringA m_ringB m_seedNow m_tape m_has m_keptHas m_first m_second m_keptFirst m_keptSecond m_pa m_pb m_pNorm m_cubed m_isOpen m_signs m_often m_la0 m_lb0 y117 hy117) rfl rfl [] rfl rfl rfl rfl rfl rfl (fun H locs X => ?_)
  refine x_aload_n 121 C dX11_middle_120 hl 0 rfl rfl ?_
  refine x_aload_n 122 C dX11_middle_121 hl 0 rfl rfl ?_
  refine x_get 125 C dX11_middle_122 X kf_X11_416 0 rfl rfl rfl ?_
  refine x_ldc2_w 128 C dX11_middle_125 (100 : Int64) kc_X11_397 rfl ?_
  refine x_lmul 129 C dX11_middle_128 rfl ?_
  refine x_aload_n 130 C dX11_middle_129 hl 0 rfl rfl ?_
  refine x_get 133 C dX11_middle_130 X kf_X11_419 0 rfl rfl rfl ?_
  refine x_iconst 134 C dX11_middle_133 (0 : Int32) kv_iconst_0 rfl ?_
  obtain ⟨y134, hy134, hf⟩ := kx_bind hf
  refine x_callVv0 137 C dX11_middle_134 X hl kl_X11_423 (c_X11_fits E.2.1 D T h N (y117.1 * (100 : Int64)) y117.2 (0 : Int32) m_taped m_states m_ra m_rb m_threes m_primes m_ones m_unit m_allParts m_allNorms m_allClasses m_odd m_boxWide m_boxHigh m_boxStep m_partingMany m_qa m_qb m_la m_lb m_sa m_sb m_ta m_tb m_listed m_tells m_wanted m_found y117.1 y117.2 m_rings m_ringA m_ringB m_seedNow m_tape m_has m_keptHas m_first m_second m_keptFirst m_keptSecond m_pa m_pb m_pNorm m_cubed m_isOpen m_signs m_often m_la0 m_lb0 y134 hy134) rfl rfl [] rfl rfl rfl rfl rfl rfl (fun H locs X => ?_)
  refine x_iload_n 138 C dX11_middle_137 hl 1 rfl rfl ?_
  refine x_if_ge 149 141 C dX11_middle_138 rfl rfl hf (fun hf => ?_) (fun hf => ?_)
  · refine x_aload_n 150 C dX11_middle_149 hl 0 rfl rfl ?_
    obtain ⟨y150, hy150, hf⟩ := kx_bind hf
    refine x_callVi0 153 C dX11_middle_150 X hl kl_X11_429 (c_X11_cut E.2.1 D T h  m_taped m_states m_ra m_rb m_threes m_primes m_ones m_unit m_allParts m_allNorms m_allClasses m_odd m_boxWide m_boxHigh m_boxStep m_partingMany m_qa m_qb m_la m_lb m_sa m_sb m_ta m_tb m_listed m_tells m_wanted m_found y134.1 y134.2 m_rings m_ringA m_ringB m_seedNow m_tape m_has m_keptHas m_first m_second m_keptFirst m_keptSecond m_pa m_pb m_pNorm m_cubed m_isOpen m_signs m_often m_la0 m_lb0 y150 hy150) rfl rfl [] rfl rfl rfl rfl rfl rfl (fun H locs X => ?_)
    obtain rfl := Option.some.inj hf
    exact R _ _ _ _ X dX11_middle_153
  refine x_aload_n 142 C dX11_middle_141 hl 0 rfl rfl ?_
  obtain ⟨y142, hy142, hf⟩ := kx_bind hf
  refine x_callVi0 145 C dX11_middle_142 X hl kl_X11_429 (c_X11_cut E.2.1 D T h  m_taped m_states m_ra m_rb m_threes m_primes m_ones m_unit m_allParts m_allNorms m_allClasses m_odd m_boxWide m_boxHigh m_boxStep m_partingMany m_qa m_qb m_la m_lb m_sa m_sb m_ta m_tb m_listed m_tells m_wanted m_found y134.1 y134.2 m_rings m_ringA m_ringB m_seedNow m_tape m_has m_keptHas m_first m_second m_keptFirst m_keptSecond m_pa m_pb m_pNorm m_cubed m_isOpen m_signs m_often m_la0 m_lb0 y142 hy142) rfl rfl [] rfl rfl rfl rfl rfl rfl (fun H locs X => ?_)
  refine x_ineg 146 C dX11_middle_145 rfl ?_
  refine x_goto 153 C dX11_middle_146 rfl ?_
  obtain rfl := Option.some.inj hf
  exact R _ _ _ _ X dX11_middle_153
set_option maxHeartbeats 4000000 in
set_option maxRecDepth 100000 in
theorem w_X11_middle_7 {E : KE} {A : Nat → Prop} {D : va_G} {T : KT} (h : Nat → Nat) (C : kx_C E cX11_middle 6 (some .int) RX11 1 30 D T) (N : Nat) (x : Int32 × Int64 × Int32) (m_taped m_states : Int32) (m_ra m_rb : Int64) (m_threes m_primes m_ones m_unit : Int32) (m_allParts m_allNorms m_allClasses : Int64) (m_odd : Int32) (m_boxWide m_boxHigh m_boxStep : Int64) (m_partingMany : Int32) (m_qa m_qb m_la m_lb m_sa m_sb m_ta m_tb : Int64) (m_listed m_tells m_wanted m_found m_rings m_ringA m_ringB m_seedNow : Int32) (m_tape m_has m_keptHas m_first m_second m_keptFirst m_keptSecond m_pa m_pb m_pNorm m_cubed m_isOpen m_signs m_often m_la0 m_lb0 : Nat → Int32) (R : kx_RI E cX11_middle D A (wM T h m_taped m_states m_ra m_rb m_threes m_primes m_ones m_unit m_allParts m_allNorms m_allClasses m_odd m_boxWide m_boxHigh m_boxStep m_partingMany m_qa m_qb m_la m_lb m_sa m_sb m_ta m_tb m_listed m_tells m_wanted m_found x.2.1 x.2.2 m_rings m_ringA m_ringB m_seedNow m_tape m_has m_keptHas m_first m_second m_keptFirst m_keptSecond m_pa m_pb m_pNorm m_cubed m_isOpen m_signs m_often m_la0 m_lb0) x.1) : ∀ (k : Nat), ∀ (m_bits : Int64) (m_power2 : Int32) (v1 v2 v3 v4 : Int32) (H : Heap) (locs : List Loc) (ls : Array Slot), kx_H E D A H locs (wM T h m_taped m_states m_ra m_rb m_threes m_primes m_ones m_unit m_allParts m_allNorms m_allClasses m_odd m_boxWide m_boxHigh m_boxStep m_partingMany m_qa m_qb m_la m_lb m_sa m_sb m_ta m_tb m_listed m_tells m_wanted m_found m_bits m_power2 m_rings m_ringA m_ringB m_seedNow m_tape m_has m_keptHas m_first m_second m_keptFirst m_keptSecond m_pa m_pb m_pNorm m_cubed m_isOpen m_signs m_often m_la0 m_lb0) → lv_has ls 6 [(0, .ref (h 0)), (1, .int v1), (2, .int v2), (3, .int v3), (4, .int v4)] → f_X11_middle_7 N k v1 v2 v3 v4 m_bits m_power2 m_has m_first m_second = some x → kx_W E H locs 7 ls [] := by
  intro k
  induction k with
  | zero =>
    intro m_bits m_power2 v1 v2 v3 v4 H locs ls X hl hf
    cases (show (none : Option (Int32 × Int64 × Int32)) = some x from hf)
  | succ k ih =>
    intro m_bits m_power2 v1 v2 v3 v4 H locs ls X hl hf
    rw [f_X11_middle_7] at hf
    refine x_iload 9 C dX11_middle_7 hl 4 rfl rfl ?_
    refine x_bipush 11 C dX11_middle_9 (8 : Int32) kv_bipush_8 rfl ?_
    refine x_icmp_ge 61 14 C dX11_middle_11 rfl rfl hf (fun hf => ?_) (fun hf => ?_)
    · refine x_iload_n 62 C dX11_middle_61 hl 2 rfl rfl ?_
      refine x_if_eq 75 65 C dX11_middle_62 rfl rfl hf (fun hf => ?_) (fun hf => ?_)
      · refine x_ldc 77 C dX11_middle_75 (-2147483648 : Int32) kc_X11_164 rfl ?_
        obtain rfl := Option.some.inj hf
        exact R _ _ _ _ X dX11_middle_77
      refine x_iload_n 66 C dX11_middle_65 hl 1 rfl rfl ?_
      refine x_i2l 67 C dX11_middle_66 rfl ?_
      refine x_lconst 68 C dX11_middle_67 (0 : Int64) kv_lconst_0 rfl ?_
      refine x_lconst 69 C dX11_middle_68 (1 : Int64) kv_lconst_1 rfl ?_
      obtain ⟨y69, hy69, hf⟩ := kx_bind hf
      refine x_callSi 72 C dX11_middle_69 X hl kl_X11_77 (c_X11_in E.2.1 D T  (v1).toInt64 (0 : Int64) (1 : Int64)  y69 hy69) [] rfl rfl rfl rfl rfl cb_7 rfl (fun H locs X => ?_)
      refine x_if_ne 78 75 C dX11_middle_72 rfl rfl hf (fun hf => ?_) (fun hf => ?_)
      · refine x_iload_n 79 C dX11_middle_78 hl 3 rfl rfl ?_
        refine x_if_ne 84 82 C dX11_middle_79 rfl rfl hf (fun hf => ?_) (fun hf => ?_)
        · refine x_iload_n 85 C dX11_middle_84 hl 3 rfl rfl ?_
          refine x_i2l 86 C dX11_middle_85 rfl ?_
          obtain ⟨y86, hy86, hf⟩ := kx_bind hf
          refine x_callSl 89 C dX11_middle_86 X hl kl_X11_246 (c_X11_without E.2.1 D T  (v3).toInt64  y86 hy86) [] rfl rfl rfl rfl rfl cb_7 rfl (fun H locs X => ?_)
          refine x_bipush 91 C dX11_middle_89 (38 : Int32) kv_bipush_38 rfl ?_
          refine x_lshl 92 C dX11_middle_91 rfl ?_
          refine x_lstore 94 C dX11_middle_92 [(4, .long (y86 <<< (((38 : Int32)).toInt64 &&& 63))), (0, .ref (h 0)), (1, .int v1), (2, .int v2), (3, .int v3)] hl rfl rfl rfl (fun ls hl => ?_)
          refine x_aload_n 95 C dX11_middle_94 hl 1 rfl rfl ?_
          refine x_lload 97 C dX11_middle_95 hl 0 rfl rfl ?_
          refine x_iload_n 98 C dX11_middle_97 hl 3 rfl rfl ?_
          refine x_i2l 99 C dX11_middle_98 rfl ?_
          refine x_ldiv 100 C dX11_middle_99 hf rfl (fun hf => ?_)
          refine x_bipush 102 C dX11_middle_100 (-38 : Int32) kv_bipush_m38 rfl ?_
          refine x_lload 104 C dX11_middle_102 hl 0 rfl rfl ?_
          refine x_iload_n 105 C dX11_middle_104 hl 3 rfl rfl ?_
          refine x_i2l 106 C dX11_middle_105 rfl ?_
          refine x_lrem 107 C dX11_middle_106 hf rfl (fun hf => ?_)
          refine x_lconst 108 C dX11_middle_107 (0 : Int64) kv_lconst_0 rfl ?_
          refine x_lcmp_eq 116 109 112 C dX11_middle_108 dX11_middle_109 rfl rfl rfl hf (fun hf => ?_) (fun hf => ?_)
          · refine x_iconst 117 C dX11_middle_116 (0 : Int32) kv_iconst_0 rfl ?_
            exact w_X11_middle_117 h C N x m_taped m_states m_ra m_rb m_threes m_primes m_ones m_unit m_allParts m_allNorms m_allClasses m_odd m_boxWide m_boxHigh m_boxStep m_partingMany m_qa m_qb m_la m_lb m_sa m_sb m_ta m_tb m_listed m_tells m_wanted m_found m_rings m_ringA m_ringB m_seedNow m_tape m_has m_keptHas m_first m_second m_keptFirst m_keptSecond m_pa m_pb m_pNorm m_cubed m_isOpen m_signs m_often m_la0 m_lb0 R  m_bits m_power2 v3 ((y86 <<< (((38 : Int32)).toInt64 &&& 63)) / (v2).toInt64) (-38 : Int32) (0 : Int32) _ _ _ X (lv_sub hl [1, 4] rfl) hf
          refine x_iconst 113 C dX11_middle_112 (1 : Int32) kv_iconst_1 rfl ?_
          refine x_goto 117 C dX11_middle_113 rfl ?_
          exact w_X11_middle_117 h C N x m_taped m_states m_ra m_rb m_threes m_primes m_ones m_unit m_allParts m_allNorms m_allClasses m_odd m_boxWide m_boxHigh m_boxStep m_partingMany m_qa m_qb m_la m_lb m_sa m_sb m_ta m_tb m_listed m_tells m_wanted m_found m_rings m_ringA m_ringB m_seedNow m_tape m_has m_keptHas m_first m_second m_keptFirst m_keptSecond m_pa m_pb m_pNorm m_cubed m_isOpen m_signs m_often m_la0 m_lb0 R  m_bits m_power2 v3 ((y86 <<< (((38 : Int32)).toInt64 &&& 63)) / (v2).toInt64) (-38 : Int32) (1 : Int32) _ _ _ X (lv_sub hl [1, 4] rfl) hf
        refine x_iconst 83 C dX11_middle_82 (0 : Int32) kv_iconst_0 rfl ?_
        obtain rfl := Option.some.inj hf
        exact R _ _ _ _ X dX11_middle_83
      refine x_ldc 77 C dX11_middle_75 (-2147483648 : Int32) kc_X11_164 rfl ?_
      obtain rfl := Option.some.inj hf
      exact R _ _ _ _ X dX11_middle_77
    refine x_aload_n 15 C dX11_middle_14 hl 0 rfl rfl ?_
    refine x_get 18 C dX11_middle_15 X kf_X11_13 0 rfl rfl rfl ?_
    refine x_iload 20 C dX11_middle_18 hl 4 rfl rfl ?_
    refine x_zald 21 C dX11_middle_20 X 2 rfl hf rfl (fun hf => ?_)
    refine x_if_ne 27 24 C dX11_middle_21 rfl rfl hf (fun hf => ?_) (fun hf => ?_)
    · refine x_iload_n 28 C dX11_middle_27 hl 2 rfl rfl ?_
      refine x_iconst 29 C dX11_middle_28 (1 : Int32) kv_iconst_1 rfl ?_
      refine x_iadd 30 C dX11_middle_29 rfl ?_
      refine x_istore_n 31 C dX11_middle_30 [(2, .int (v2 + (1 : Int32))), (0, .ref (h 0)), (1, .int v1), (3, .int v3), (4, .int v4)] hl rfl rfl rfl (fun ls hl => ?_)
      refine x_iload_n 32 C dX11_middle_31 hl 3 rfl rfl ?_
      refine x_iload_n 33 C dX11_middle_32 hl 2 rfl rfl ?_
      refine x_if_ne 46 36 C dX11_middle_33 rfl rfl hf (fun hf => ?_) (fun hf => ?_)
      · refine x_aload_n 47 C dX11_middle_46 hl 1 rfl rfl ?_
        refine x_get 50 C dX11_middle_47 X kf_X11_24 0 rfl rfl rfl ?_
        refine x_iload 52 C dX11_middle_50 hl 4 rfl rfl ?_
        refine x_iald 53 C dX11_middle_52 X 5 rfl hf rfl (fun hf => ?_)
        refine x_iadd 54 C dX11_middle_53 rfl ?_
        refine x_istore_n 55 C dX11_middle_54 [(3, .int (v3 + (m_second (v4).toNatClampNeg))), (2, .int (v2 + (1 : Int32))), (0, .ref (h 0)), (1, .int v1), (4, .int v4)] hl rfl rfl rfl (fun ls hl => ?_)
        refine x_iinc 58 C dX11_middle_55 (1 : Int32) kv_iconst_1 [(4, .int (v4 + (1 : Int32))), (3, .int (v3 + (m_second (v4).toNatClampNeg))), (2, .int (v2 + (1 : Int32))), (0, .ref (h 0)), (1, .int v1)] hl 4 rfl rfl rfl rfl (fun ls hl => ?_)
        refine x_goto 7 C dX11_middle_58 rfl ?_
        exact ih m_bits m_power2 v1 (v2 + (1 : Int32)) (v3 + (m_second (v4).toNatClampNeg)) (v4 + (1 : Int32)) _ _ _ X (lv_sub hl [3, 4, 2, 1, 0] rfl) hf
      refine x_aload_n 37 C dX11_middle_36 hl 1 rfl rfl ?_
      refine x_get 40 C dX11_middle_37 X kf_X11_20 0 rfl rfl rfl ?_
      refine x_iload 42 C dX11_middle_40 hl 4 rfl rfl ?_
      refine x_iald 43 C dX11_middle_42 X 4 rfl hf rfl (fun hf => ?_)
      refine x_goto 53 C dX11_middle_43 rfl ?_
      refine x_iadd 54 C dX11_middle_53 rfl ?_
      refine x_istore_n 55 C dX11_middle_54 [(3, .int (v3 + (m_first (v4).toNatClampNeg))), (2, .int (v2 + (1 : Int32))), (0, .ref (h 0)), (1, .int v1), (4, .int v4)] hl rfl rfl rfl (fun ls hl => ?_)
      refine x_iinc 58 C dX11_middle_55 (1 : Int32) kv_iconst_1 [(4, .int (v4 + (1 : Int32))), (3, .int (v3 + (m_first (v4).toNatClampNeg))), (2, .int (v2 + (1 : Int32))), (0, .ref (h 0)), (1, .int v1)] hl 4 rfl rfl rfl rfl (fun ls hl => ?_)
      refine x_goto 7 C dX11_middle_58 rfl ?_
      exact ih m_bits m_power2 v1 (v2 + (1 : Int32)) (v3 + (m_first (v4).toNatClampNeg)) (v4 + (1 : Int32)) _ _ _ X (lv_sub hl [3, 4, 2, 1, 0] rfl) hf
    refine x_goto 55 C dX11_middle_24 rfl ?_
    refine x_iinc 58 C dX11_middle_55 (1 : Int32) kv_iconst_1 [(4, .int (v4 + (1 : Int32))), (0, .ref (h 0)), (1, .int v1), (2, .int v2), (3, .int v3)] hl 4 rfl rfl rfl rfl (fun ls hl => ?_)
    refine x_goto 7 C dX11_middle_58 rfl ?_
    exact ih m_bits m_power2 v1 v2 v3 (v4 + (1 : Int32)) _ _ _ X (lv_sub hl [1, 2, 3, 4, 0] rfl) hf
set_option maxHeartbeats 4000000 in
set_option maxRecDepth 100000 in
theorem c_X11_middle (l : Launch) (D : va_G) (T : KT) (h : Nat → Nat) (N : Nat) (v1 : Int32) (m_taped m_states : Int32) (m_ra m_rb : Int64) (m_threes m_primes m_ones m_unit : Int32) (m_allParts m_allNorms m_allClasses : Int64) (m_odd : Int32) (m_boxWide m_boxHigh m_boxStep : Int64) (m_partingMany : Int32) (m_qa m_qb m_la m_lb m_sa m_sb m_ta m_tb : Int64) (m_listed m_tells m_wanted m_found : Int32) (m_bits : Int64) (m_power2 m_rings m_ringA m_ringB m_seedNow : Int32) (m_tape m_has m_keptHas m_first m_second m_keptFirst m_keptSecond m_pa m_pb m_pNorm m_cubed m_isOpen m_signs m_often m_la0 m_lb0 : Nat → Int32) (x : Int32 × Int64 × Int32) (hf : f_X11_middle N v1 m_bits m_power2 m_has m_first m_second = some x) : kx_MI l yX11_middle cX11_middle 6 (some .int) 1 30 D T [.ref (h 0), .int v1] (wM T h m_taped m_states m_ra m_rb m_threes m_primes m_ones m_unit m_allParts m_allNorms m_allClasses m_odd m_boxWide m_boxHigh m_boxStep m_partingMany m_qa m_qb m_la m_lb m_sa m_sb m_ta m_tb m_listed m_tells m_wanted m_found m_bits m_power2 m_rings m_ringA m_ringB m_seedNow m_tape m_has m_keptHas m_first m_second m_keptFirst m_keptSecond m_pa m_pb m_pNorm m_cubed m_isOpen m_signs m_often m_la0 m_lb0) (wM T h m_taped m_states m_ra m_rb m_threes m_primes m_ones m_unit m_allParts m_allNorms m_allClasses m_odd m_boxWide m_boxHigh m_boxStep m_partingMany m_qa m_qb m_la m_lb m_sa m_sb m_ta m_tb m_listed m_tells m_wanted m_found x.2.1 x.2.2 m_rings m_ringA m_ringB m_seedNow m_tape m_has m_keptHas m_first m_second m_keptFirst m_keptSecond m_pa m_pb m_pNorm m_cubed m_isOpen m_signs m_often m_la0 m_lb0) x.1 := by
  refine kx_ofMI RX11 rfl (plainFor_of_name (x := yX11_middle) kpn_X11) rfl ?_
  intro E A H ls _ C X R hl
  have hl : lv_has ls 6 [(0, .ref (h 0)), (1, .int v1)] := hl
  rw [f_X11_middle] at hf
  refine x_iconst 1 C dX11_middle_0 (0 : Int32) kv_iconst_0 rfl ?_
  refine x_istore_n 2 C dX11_middle_1 [(2, .int (0 : Int32)), (0, .ref (h 0)), (1, .int v1)] hl rfl rfl rfl (fun ls hl => ?_)
  refine x_iconst 3 C dX11_middle_2 (0 : Int32) kv_iconst_0 rfl ?_
  refine x_istore_n 4 C dX11_middle_3 [(3, .int (0 : Int32)), (2, .int (0 : Int32)), (0, .ref (h 0)), (1, .int v1)] hl rfl rfl rfl (fun ls hl => ?_)
  refine x_iconst 5 C dX11_middle_4 (0 : Int32) kv_iconst_0 rfl ?_
  refine x_istore 7 C dX11_middle_5 [(4, .int (0 : Int32)), (3, .int (0 : Int32)), (2, .int (0 : Int32)), (0, .ref (h 0)), (1, .int v1)] hl rfl rfl rfl (fun ls hl => ?_)
  exact w_X11_middle_7 h C N x m_taped m_states m_ra m_rb m_threes m_primes m_ones m_unit m_allParts m_allNorms m_allClasses m_odd m_boxWide m_boxHigh m_boxStep m_partingMany m_qa m_qb m_la m_lb m_sa m_sb m_ta m_tb m_listed m_tells m_wanted m_found m_rings m_ringA m_ringB m_seedNow m_tape m_has m_keptHas m_first m_second m_keptFirst m_keptSecond m_pa m_pb m_pNorm m_cubed m_isOpen m_signs m_often m_la0 m_lb0 R  N m_bits m_power2 v1 (0 : Int32) (0 : Int32) (0 : Int32) _ _ _ X (lv_sub hl [3, 4, 2, 1, 0] rfl) hf
set_option maxHeartbeats 4000000 in
set_option maxRecDepth 100000 in
theorem w_X10_nearest_119 {E : KE} {A : Nat → Prop} {D : va_G} {T : KT} (h : Nat → Nat) (C : kx_C E cX10_nearest 7 (some .int) RX10 2 46 D T) (N : Nat) (x : Int32 × Int64 × Int64 × Int64 × Int64) (m_drawers_full m_drawers_kept : Int32) (m_drawers_partA m_drawers_partB m_drawers_keptA m_drawers_keptB m_drawers_keptFull : Nat → Int32) (m_tape_size m_tape_plain m_tape_omegas m_tape_end m_tape_place m_tape_plainTold m_tape_omegasTold : Int32) (m_tape_bytes : Nat → Int32) (m_euclid_count : Int32) (m_euclid_last_a m_euclid_last_b m_euclid_lastOfFirst_a m_euclid_lastOfFirst_b m_euclid_lastOfSecond_a m_euclid_lastOfSecond_b m_euclid_next_a m_euclid_next_b m_euclid_nextOfFirst_a m_euclid_nextOfFirst_b m_euclid_nextOfSecond_a m_euclid_nextOfSecond_b m_euclid_q_a m_euclid_q_b : Int64) (m_euclid_quotientA m_euclid_quotientB : Nat → Int64) (m_modulus_step m_modulus_width m_modulus_slant m_modulus_square_a m_modulus_square_b : Int64) (m_factors_count m_factors_threes m_factors_unit : Int32) (m_factors_primeA m_factors_primeB m_factors_norms : Nat → Int64) (m_factors_euclid_count : Int32) (m_factors_euclid_last_a m_factors_euclid_last_b m_factors_euclid_lastOfFirst_a m_factors_euclid_lastOfFirst_b m_factors_euclid_lastOfSecond_a m_factors_euclid_lastOfSecond_b m_factors_euclid_next_a m_factors_euclid_next_b m_factors_euclid_nextOfFirst_a m_factors_euclid_nextOfFirst_b m_factors_euclid_nextOfSecond_a m_factors_euclid_nextOfSecond_b m_factors_euclid_q_a m_factors_euclid_q_b : Int64) (m_factors_euclid_quotientA m_factors_euclid_quotientB : Nat → Int64) (m_factors_left_a m_factors_left_b m_factors_found_a m_factors_found_b m_factors_product_a m_factors_product_b : Int64) (m_primes_count : Int32) (m_primes_primeA m_primes_primeB : Nat → Int32) (m_primes_found_a m_primes_found_b : Int64) (m_rings_foundA m_rings_foundB m_rings_all m_rings_mostOfOneRow m_letters_count : Int32) (m_letters_bytes : Nat → Int32) (m_three_a m_three_b m_four_a m_four_b m_out_a m_out_b m_spare_a m_spare_b : Int64) (m_marks : Nat → Int32) (R : kx_RI E cX10_nearest D A (wC T h m_drawers_full m_drawers_kept m_drawers_partA m_drawers_partB m_drawers_keptA m_drawers_keptB m_drawers_keptFull m_tape_size m_tape_plain m_tape_omegas m_tape_end m_tape_place m_tape_plainTold m_tape_omegasTold m_tape_bytes m_euclid_count m_euclid_last_a m_euclid_last_b m_euclid_lastOfFirst_a m_euclid_lastOfFirst_b m_euclid_lastOfSecond_a m_euclid_lastOfSecond_b m_euclid_next_a m_euclid_next_b m_euclid_nextOfFirst_a m_euclid_nextOfFirst_b m_euclid_nextOfSecond_a m_euclid_nextOfSecond_b m_euclid_q_a m_euclid_q_b m_euclid_quotientA m_euclid_quotientB m_modulus_step m_modulus_width m_modulus_slant m_modulus_square_a m_modulus_square_b m_factors_count m_factors_threes m_factors_unit m_factors_primeA m_factors_primeB m_factors_norms m_factors_euclid_count m_factors_euclid_last_a m_factors_euclid_last_b m_factors_euclid_lastOfFirst_a m_factors_euclid_lastOfFirst_b m_factors_euclid_lastOfSecond_a m_factors_euclid_lastOfSecond_b m_factors_euclid_next_a m_factors_euclid_next_b m_factors_euclid_nextOfFirst_a m_factors_euclid_nextOfFirst_b m_factors_euclid_nextOfSecond_a m_factors_euclid_nextOfSecond_b m_factors_euclid_q_a m_factors_euclid_q_b m_factors_euclid_quotientA m_factors_euclid_quotientB m_factors_left_a m_factors_left_b m_factors_found_a m_factors_found_b m_factors_product_a m_factors_product_b m_primes_count m_primes_primeA m_primes_primeB m_primes_found_a m_primes_found_b m_rings_foundA m_rings_foundB m_rings_all m_rings_mostOfOneRow m_letters_count m_letters_bytes x.2.1 x.2.2.1 x.2.2.2.1 x.2.2.2.2 m_three_a m_three_b m_four_a m_four_b m_out_a m_out_b m_spare_a m_spare_b m_marks) x.1) (k52 : Int32 → Int32 → Int32 → Int64 → Int32 → Int32 → (Nat → Int32) → (Nat → Int32) → Int64 → Int64 → Int64 → Int64 → Option (Int32 × Int64 × Int64 × Int64 × Int64)) (hk52 : ∀ (m_one_a m_one_b m_two_a m_two_b : Int64) (v1 v2 v3 : Int32) (v4 : Int64) (v6 : Int32) (H : Heap) (locs : List Loc) (ls : Array Slot), kx_H E D A H locs (wC T h m_drawers_full m_drawers_kept m_drawers_partA m_drawers_partB m_drawers_keptA m_drawers_keptB m_drawers_keptFull m_tape_size m_tape_plain m_tape_omegas m_tape_end m_tape_place m_tape_plainTold m_tape_omegasTold m_tape_bytes m_euclid_count m_euclid_last_a m_euclid_last_b m_euclid_lastOfFirst_a m_euclid_lastOfFirst_b m_euclid_lastOfSecond_a m_euclid_lastOfSecond_b m_euclid_next_a m_euclid_next_b m_euclid_nextOfFirst_a m_euclid_nextOfFirst_b m_euclid_nextOfSecond_a m_euclid_nextOfSecond_b m_euclid_q_a m_euclid_q_b m_euclid_quotientA m_euclid_quotientB m_modulus_step m_modulus_width m_modulus_slant m_modulus_square_a m_modulus_square_b m_factors_count m_factors_threes m_factors_unit m_factors_primeA m_factors_primeB m_factors_norms m_factors_euclid_count m_factors_euclid_last_a m_factors_euclid_last_b m_factors_euclid_lastOfFirst_a m_factors_euclid_lastOfFirst_b m_factors_euclid_lastOfSecond_a m_factors_euclid_lastOfSecond_b m_factors_euclid_next_a m_factors_euclid_next_b m_factors_euclid_nextOfFirst_a m_factors_euclid_nextOfFirst_b m_factors_euclid_nextOfSecond_a m_factors_euclid_nextOfSecond_b m_factors_euclid_q_a m_factors_euclid_q_b m_factors_euclid_quotientA m_factors_euclid_quotientB m_factors_left_a m_factors_left_b m_factors_found_a m_factors_found_b m_factors_product_a m_factors_product_b m_primes_count m_primes_primeA m_primes_primeB m_primes_found_a m_primes_found_b m_rings_foundA m_rings_foundB m_rings_all m_rings_mostOfOneRow m_letters_count m_letters_bytes m_one_a m_one_b m_two_a m_two_b m_three_a m_three_b m_four_a m_four_b m_out_a m_out_b m_spare_a m_spare_b m_marks) → lv_has ls 7 [(0, .ref (h 0)), (1, .int v1), (2, .int v2), (3, .int v3), (4, .long v4), (6, .int v6)] → k52 v1 v2 v3 v4 v6 m_drawers_full m_drawers_partA m_drawers_partB m_one_a m_one_b m_two_a m_two_b = some x → kx_W E H locs 52 ls []) : ∀ (m_one_a m_one_b m_two_a m_two_b : Int64) (v1 v2 v6 : Int32) (H : Heap) (locs : List Loc) (ls : Array Slot), kx_H E D A H locs (wC T h m_drawers_full m_drawers_kept m_drawers_partA m_drawers_partB m_drawers_keptA m_drawers_keptB m_drawers_keptFull m_tape_size m_tape_plain m_tape_omegas m_tape_end m_tape_place m_tape_plainTold m_tape_omegasTold m_tape_bytes m_euclid_count m_euclid_last_a m_euclid_last_b m_euclid_lastOfFirst_a m_euclid_lastOfFirst_b m_euclid_lastOfSecond_a m_euclid_lastOfSecond_b m_euclid_next_a m_euclid_next_b m_euclid_nextOfFirst_a m_euclid_nextOfFirst_b m_euclid_nextOfSecond_a m_euclid_nextOfSecond_b m_euclid_q_a m_euclid_q_b m_euclid_quotientA m_euclid_quotientB m_modulus_step m_modulus_width m_modulus_slant m_modulus_square_a m_modulus_square_b m_factors_count m_factors_threes m_factors_unit m_factors_primeA m_factors_primeB m_factors_norms m_factors_euclid_count m_factors_euclid_last_a m_factors_euclid_last_b m_factors_euclid_lastOfFirst_a m_factors_euclid_lastOfFirst_b m_factors_euclid_lastOfSecond_a m_factors_euclid_lastOfSecond_b m_factors_euclid_next_a m_factors_euclid_next_b m_factors_euclid_nextOfFirst_a m_factors_euclid_nextOfFirst_b m_factors_euclid_nextOfSecond_a m_factors_euclid_nextOfSecond_b m_factors_euclid_q_a m_factors_euclid_q_b m_factors_euclid_quotientA m_factors_euclid_quotientB m_factors_left_a m_factors_left_b m_factors_found_a m_factors_found_b m_factors_product_a m_factors_product_b m_primes_count m_primes_primeA m_primes_primeB m_primes_found_a m_primes_found_b m_rings_foundA m_rings_foundB m_rings_all m_rings_mostOfOneRow m_letters_count m_letters_bytes m_one_a m_one_b m_two_a m_two_b m_three_a m_three_b m_four_a m_four_b m_out_a m_out_b m_spare_a m_spare_b m_marks) → lv_has ls 7 [(0, .ref (h 0)), (1, .int v1), (2, .int v2), (6, .int v6)] → f_X10_nearest_119 N k52 v1 v2 v6 m_drawers_full m_drawers_partA m_drawers_partB m_one_a m_one_b m_two_a m_two_b = some x → kx_W E H locs 119 ls [] := by
  intro m_one_a m_one_b m_two_a m_two_b v1 v2 v6 H locs ls X hl hf
  rw [f_X10_nearest_119] at hf
  refine x_iload 121 C dX10_nearest_119 hl 3 rfl rfl ?_
  refine x_istore_n 122 C dX10_nearest_121 [(3, .int v6), (0, .ref (h 0)), (1, .int v1), (2, .int v2), (6, .int v6)] hl rfl rfl rfl (fun ls hl => ?_)
  refine x_aload_n 123 C dX10_nearest_122 hl 1 rfl rfl ?_
  refine x_get 126 C dX10_nearest_123 X kf_X10_74 0 rfl rfl rfl ?_
  obtain ⟨y126, hy126, hf⟩ := kx_bind hf
  refine x_callVl 129 C dX10_nearest_126 X hl kl_X10_152 (c_X5_norm E.2.1 D T (h 46)  m_two_a m_two_b y126 hy126) rfl rfl [] rfl rfl rfl rfl rfl cb_55 rfl (fun H locs X => ?_)
  refine x_lstore 131 C dX10_nearest_129 [(4, .long y126), (3, .int v6), (0, .ref (h 0)), (1, .int v1), (2, .int v2), (6, .int v6)] hl rfl rfl rfl (fun ls hl => ?_)
  refine x_iinc 134 C dX10_nearest_131 (1 : Int32) kv_iconst_1 [(6, .int (v6 + (1 : Int32))), (4, .long y126), (3, .int v6), (0, .ref (h 0)), (1, .int v1), (2, .int v2)] hl 5 rfl rfl rfl rfl (fun ls hl => ?_)
  refine x_goto 52 C dX10_nearest_134 rfl ?_
  exact hk52 m_one_a m_one_b m_two_a m_two_b v1 v2 v6 y126 (v6 + (1 : Int32)) _ _ _ X (lv_sub hl [3, 4, 5, 2, 1, 0] rfl) hf
set_option maxHeartbeats 4000000 in
set_option maxRecDepth 100000 in
theorem w_X10_nearest_52 {E : KE} {A : Nat → Prop} {D : va_G} {T : KT} (h : Nat → Nat) (C : kx_C E cX10_nearest 7 (some .int) RX10 2 46 D T) (N : Nat) (x : Int32 × Int64 × Int64 × Int64 × Int64) (m_drawers_full m_drawers_kept : Int32) (m_drawers_partA m_drawers_partB m_drawers_keptA m_drawers_keptB m_drawers_keptFull : Nat → Int32) (m_tape_size m_tape_plain m_tape_omegas m_tape_end m_tape_place m_tape_plainTold m_tape_omegasTold : Int32) (m_tape_bytes : Nat → Int32) (m_euclid_count : Int32) (m_euclid_last_a m_euclid_last_b m_euclid_lastOfFirst_a m_euclid_lastOfFirst_b m_euclid_lastOfSecond_a m_euclid_lastOfSecond_b m_euclid_next_a m_euclid_next_b m_euclid_nextOfFirst_a m_euclid_nextOfFirst_b m_euclid_nextOfSecond_a m_euclid_nextOfSecond_b m_euclid_q_a m_euclid_q_b : Int64) (m_euclid_quotientA m_euclid_quotientB : Nat → Int64) (m_modulus_step m_modulus_width m_modulus_slant m_modulus_square_a m_modulus_square_b : Int64) (m_factors_count m_factors_threes m_factors_unit : Int32) (m_factors_primeA m_factors_primeB m_factors_norms : Nat → Int64) (m_factors_euclid_count : Int32) (m_factors_euclid_last_a m_factors_euclid_last_b m_factors_euclid_lastOfFirst_a m_factors_euclid_lastOfFirst_b m_factors_euclid_lastOfSecond_a m_factors_euclid_lastOfSecond_b m_factors_euclid_next_a m_factors_euclid_next_b m_factors_euclid_nextOfFirst_a m_factors_euclid_nextOfFirst_b m_factors_euclid_nextOfSecond_a m_factors_euclid_nextOfSecond_b m_factors_euclid_q_a m_factors_euclid_q_b : Int64) (m_factors_euclid_quotientA m_factors_euclid_quotientB : Nat → Int64) (m_factors_left_a m_factors_left_b m_factors_found_a m_factors_found_b m_factors_product_a m_factors_product_b : Int64) (m_primes_count : Int32) (m_primes_primeA m_primes_primeB : Nat → Int32) (m_primes_found_a m_primes_found_b : Int64) (m_rings_foundA m_rings_foundB m_rings_all m_rings_mostOfOneRow m_letters_count : Int32) (m_letters_bytes : Nat → Int32) (m_three_a m_three_b m_four_a m_four_b m_out_a m_out_b m_spare_a m_spare_b : Int64) (m_marks : Nat → Int32) (R : kx_RI E cX10_nearest D A (wC T h m_drawers_full m_drawers_kept m_drawers_partA m_drawers_partB m_drawers_keptA m_drawers_keptB m_drawers_keptFull m_tape_size m_tape_plain m_tape_omegas m_tape_end m_tape_place m_tape_plainTold m_tape_omegasTold m_tape_bytes m_euclid_count m_euclid_last_a m_euclid_last_b m_euclid_lastOfFirst_a m_euclid_lastOfFirst_b m_euclid_lastOfSecond_a m_euclid_lastOfSecond_b m_euclid_next_a m_euclid_next_b m_euclid_nextOfFirst_a m_euclid_nextOfFirst_b m_euclid_nextOfSecond_a m_euclid_nextOfSecond_b m_euclid_q_a m_euclid_q_b m_euclid_quotientA m_euclid_quotientB m_modulus_step m_modulus_width m_modulus_slant m_modulus_square_a m_modulus_square_b m_factors_count m_factors_threes m_factors_unit m_factors_primeA m_factors_primeB m_factors_norms m_factors_euclid_count m_factors_euclid_last_a m_factors_euclid_last_b m_factors_euclid_lastOfFirst_a m_factors_euclid_lastOfFirst_b m_factors_euclid_lastOfSecond_a m_factors_euclid_lastOfSecond_b m_factors_euclid_next_a m_factors_euclid_next_b m_factors_euclid_nextOfFirst_a m_factors_euclid_nextOfFirst_b m_factors_euclid_nextOfSecond_a m_factors_euclid_nextOfSecond_b m_factors_euclid_q_a m_factors_euclid_q_b m_factors_euclid_quotientA m_factors_euclid_quotientB m_factors_left_a m_factors_left_b m_factors_found_a m_factors_found_b m_factors_product_a m_factors_product_b m_primes_count m_primes_primeA m_primes_primeB m_primes_found_a m_primes_found_b m_rings_foundA m_rings_foundB m_rings_all m_rings_mostOfOneRow m_letters_count m_letters_bytes x.2.1 x.2.2.1 x.2.2.2.1 x.2.2.2.2 m_three_a m_three_b m_four_a m_four_b m_out_a m_out_b m_spare_a m_spare_b m_marks) x.1) : ∀ (k : Nat), ∀ (m_one_a m_one_b m_two_a m_two_b : Int64) (v1 v2 v3 : Int32) (v4 : Int64) (v6 : Int32) (H : Heap) (locs : List Loc) (ls : Array Slot), kx_H E D A H locs (wC T h m_drawers_full m_drawers_kept m_drawers_partA m_drawers_partB m_drawers_keptA m_drawers_keptB m_drawers_keptFull m_tape_size m_tape_plain m_tape_omegas m_tape_end m_tape_place m_tape_plainTold m_tape_omegasTold m_tape_bytes m_euclid_count m_euclid_last_a m_euclid_last_b m_euclid_lastOfFirst_a m_euclid_lastOfFirst_b m_euclid_lastOfSecond_a m_euclid_lastOfSecond_b m_euclid_next_a m_euclid_next_b m_euclid_nextOfFirst_a m_euclid_nextOfFirst_b m_euclid_nextOfSecond_a m_euclid_nextOfSecond_b m_euclid_q_a m_euclid_q_b m_euclid_quotientA m_euclid_quotientB m_modulus_step m_modulus_width m_modulus_slant m_modulus_square_a m_modulus_square_b m_factors_count m_factors_threes m_factors_unit m_factors_primeA m_factors_primeB m_factors_norms m_factors_euclid_count m_factors_euclid_last_a m_factors_euclid_last_b m_factors_euclid_lastOfFirst_a m_factors_euclid_lastOfFirst_b m_factors_euclid_lastOfSecond_a m_factors_euclid_lastOfSecond_b m_factors_euclid_next_a m_factors_euclid_next_b m_factors_euclid_nextOfFirst_a m_factors_euclid_nextOfFirst_b m_factors_euclid_nextOfSecond_a m_factors_euclid_nextOfSecond_b m_factors_euclid_q_a m_factors_euclid_q_b m_factors_euclid_quotientA m_factors_euclid_quotientB m_factors_left_a m_factors_left_b m_factors_found_a m_factors_found_b m_factors_product_a m_factors_product_b m_primes_count m_primes_primeA m_primes_primeB m_primes_found_a m_primes_found_b m_rings_foundA m_rings_foundB m_rings_all m_rings_mostOfOneRow m_letters_count m_letters_bytes m_one_a m_one_b m_two_a m_two_b m_three_a m_three_b m_four_a m_four_b m_out_a m_out_b m_spare_a m_spare_b m_marks) → lv_has ls 7 [(0, .ref (h 0)), (1, .int v1), (2, .int v2), (3, .int v3), (4, .long v4), (6, .int v6)] → f_X10_nearest_52 N k v1 v2 v3 v4 v6 m_drawers_full m_drawers_partA m_drawers_partB m_one_a m_one_b m_two_a m_two_b = some x → kx_W E H locs 52 ls [] := by
  intro k
  induction k with
  | zero =>
    intro m_one_a m_one_b m_two_a m_two_b v1 v2 v3 v4 v6 H locs ls X hl hf
    cases (show (none : Option (Int32 × Int64 × Int64 × Int64 × Int64)) = some x from hf)
  | succ k ih =>
    intro m_one_a m_one_b m_two_a m_two_b v1 v2 v3 v4 v6 H locs ls X hl hf
    rw [f_X10_nearest_52] at hf
    refine x_iload 54 C dX10_nearest_52 hl 5 rfl rfl ?_
    refine x_bipush 56 C dX10_nearest_54 (8 : Int32) kv_bipush_8 rfl ?_
    refine x_icmp_ge 137 59 C dX10_nearest_56 rfl rfl hf (fun hf => ?_) (fun hf => ?_)
    · refine x_iload_n 138 C dX10_nearest_137 hl 3 rfl rfl ?_
      refine x_iconst 139 C dX10_nearest_138 (-1 : Int32) kv_iconst_m1 rfl ?_
      refine x_icmp_ne 145 142 C dX10_nearest_139 rfl rfl hf (fun hf => ?_) (fun hf => ?_)
      · refine x_iload_n 146 C dX10_nearest_145 hl 2 rfl rfl ?_
        refine x_if_ne 153 149 C dX10_nearest_146 rfl rfl hf (fun hf => ?_) (fun hf => ?_)
        · refine x_lload 155 C dX10_nearest_153 hl 4 rfl rfl ?_
          refine x_l2i 156 C dX10_nearest_155 rfl ?_
          obtain rfl := Option.some.inj hf
          exact R _ _ _ _ X dX10_nearest_156
        refine x_iload_n 150 C dX10_nearest_149 hl 3 rfl rfl ?_
        refine x_goto 156 C dX10_nearest_150 rfl ?_
        obtain rfl := Option.some.inj hf
        exact R _ _ _ _ X dX10_nearest_156
      refine x_bipush 144 C dX10_nearest_142 (-3 : Int32) kv_bipush_m3 rfl ?_
      obtain rfl := Option.some.inj hf
      exact R _ _ _ _ X dX10_nearest_144
    refine x_iload 61 C dX10_nearest_59 hl 5 rfl rfl ?_
    refine x_iload_n 62 C dX10_nearest_61 hl 1 rfl rfl ?_
    refine x_icmp_eq 131 65 C dX10_nearest_62 rfl rfl hf (fun hf => ?_) (fun hf => ?_)
    · refine x_iinc 134 C dX10_nearest_131 (1 : Int32) kv_iconst_1 [(6, .int (v6 + (1 : Int32))), (0, .ref (h 0)), (1, .int v1), (2, .int v2), (3, .int v3), (4, .long v4)] hl 5 rfl rfl rfl rfl (fun ls hl => ?_)
      refine x_goto 52 C dX10_nearest_134 rfl ?_
      exact ih m_one_a m_one_b m_two_a m_two_b v1 v2 v3 v4 (v6 + (1 : Int32)) _ _ _ X (lv_sub hl [1, 2, 3, 4, 5, 0] rfl) hf
    refine x_aload_n 66 C dX10_nearest_65 hl 0 rfl rfl ?_
    refine x_get 69 C dX10_nearest_66 X kf_X10_12 0 rfl rfl rfl ?_
    refine x_iload 71 C dX10_nearest_69 hl 5 rfl rfl ?_
    obtain ⟨y71, hy71, hf⟩ := kx_bind hf
    refine x_callVi 74 C dX10_nearest_71 X hl kl_X10_130 (c_X0_has E.2.1 D T (h 1) (h 2) (h 3) (h 4) (h 5) (h 6) v6 m_drawers_full m_drawers_kept y71 hy71) rfl rfl [] rfl rfl rfl rfl rfl cb_9 rfl (fun H locs X => ?_)
    refine x_if_eq 131 77 C dX10_nearest_74 rfl rfl hf (fun hf => ?_) (fun hf => ?_)
    · refine x_iinc 134 C dX10_nearest_131 (1 : Int32) kv_iconst_1 [(6, .int (v6 + (1 : Int32))), (0, .ref (h 0)), (1, .int v1), (2, .int v2), (3, .int v3), (4, .long v4)] hl 5 rfl rfl rfl rfl (fun ls hl => ?_)
      refine x_goto 52 C dX10_nearest_134 rfl ?_
      exact ih m_one_a m_one_b m_two_a m_two_b v1 v2 v3 v4 (v6 + (1 : Int32)) _ _ _ X (lv_sub hl [1, 2, 3, 4, 5, 0] rfl) hf
    refine x_aload_n 78 C dX10_nearest_77 hl 0 rfl rfl ?_
    refine x_get 81 C dX10_nearest_78 X kf_X10_12 0 rfl rfl rfl ?_
    refine x_iload 83 C dX10_nearest_81 hl 5 rfl rfl ?_
    refine x_aload_n 84 C dX10_nearest_83 hl 0 rfl rfl ?_
    refine x_get 87 C dX10_nearest_84 X kf_X10_74 0 rfl rfl rfl ?_
    obtain ⟨y87, hy87, hf⟩ := kx_bind hf
    refine x_callVv 90 C dX10_nearest_87 X hl kl_X10_141 (c_X0_load E.2.1 D T (h 1) (h 2) (h 3) (h 4) (h 5) (h 6) (h 46) v6 m_drawers_full m_drawers_kept m_drawers_partA m_drawers_partB m_two_a m_two_b y87 hy87) rfl rfl [] rfl rfl rfl rfl rfl cb_65 rfl (fun H locs X => ?_)
    refine x_aload_n 91 C dX10_nearest_90 hl 0 rfl rfl ?_
    refine x_get 94 C dX10_nearest_91 X kf_X10_74 0 rfl rfl rfl ?_
    refine x_aload_n 95 C dX10_nearest_94 hl 0 rfl rfl ?_
    refine x_get 98 C dX10_nearest_95 X kf_X10_70 0 rfl rfl rfl ?_
    obtain ⟨y98, hy98, hf⟩ := kx_bind hf
    refine x_callVv 101 C dX10_nearest_98 X hl kl_X10_193 (c_X5_subtract E.2.1 D T (h 46) (h 45)  y87.1 y87.2 m_one_a m_one_b y98 hy98) rfl rfl [] rfl rfl rfl rfl rfl cb_68 rfl (fun H locs X => ?_)
    refine x_iload_n 102 C dX10_nearest_101 hl 3 rfl rfl ?_
    refine x_iconst 103 C dX10_nearest_102 (-1 : Int32) kv_iconst_m1 rfl ?_
    refine x_icmp_eq 119 106 C dX10_nearest_103 rfl rfl hf (fun hf => ?_) (fun hf => ?_)
    · exact w_X10_nearest_119 h C N x m_drawers_full m_drawers_kept m_drawers_partA m_drawers_partB m_drawers_keptA m_drawers_keptB m_drawers_keptFull m_tape_size m_tape_plain m_tape_omegas m_tape_end m_tape_place m_tape_plainTold m_tape_omegasTold m_tape_bytes m_euclid_count m_euclid_last_a m_euclid_last_b m_euclid_lastOfFirst_a m_euclid_lastOfFirst_b m_euclid_lastOfSecond_a m_euclid_lastOfSecond_b m_euclid_next_a m_euclid_next_b m_euclid_nextOfFirst_a m_euclid_nextOfFirst_b m_euclid_nextOfSecond_a m_euclid_nextOfSecond_b m_euclid_q_a m_euclid_q_b m_euclid_quotientA m_euclid_quotientB m_modulus_step m_modulus_width m_modulus_slant m_modulus_square_a m_modulus_square_b m_factors_count m_factors_threes m_factors_unit m_factors_primeA m_factors_primeB m_factors_norms m_factors_euclid_count m_factors_euclid_last_a m_factors_euclid_last_b m_factors_euclid_lastOfFirst_a m_factors_euclid_lastOfFirst_b m_factors_euclid_lastOfSecond_a m_factors_euclid_lastOfSecond_b m_factors_euclid_next_a m_factors_euclid_next_b m_factors_euclid_nextOfFirst_a m_factors_euclid_nextOfFirst_b m_factors_euclid_nextOfSecond_a m_factors_euclid_nextOfSecond_b m_factors_euclid_q_a m_factors_euclid_q_b m_factors_euclid_quotientA m_factors_euclid_quotientB m_factors_left_a m_factors_left_b m_factors_found_a m_factors_found_b m_factors_product_a m_factors_product_b m_primes_count m_primes_primeA m_primes_primeB m_primes_found_a m_primes_found_b m_rings_foundA m_rings_foundB m_rings_all m_rings_mostOfOneRow m_letters_count m_letters_bytes m_three_a m_three_b m_four_a m_four_b m_out_a m_out_b m_spare_a m_spare_b m_marks R (f_X10_nearest_52 N k) ih m_one_a m_one_b y98.1 y98.2 v1 v2 v6 _ _ _ X (lv_sub hl [0, 1, 2, 5] rfl) hf
    refine x_aload_n 107 C dX10_nearest_106 hl 0 rfl rfl ?_
    refine x_get 110 C dX10_nearest_107 X kf_X10_74 0 rfl rfl rfl ?_
    obtain ⟨y110, hy110, hf⟩ := kx_bind hf
    refine x_callVl 113 C dX10_nearest_110 X hl kl_X10_152 (c_X5_norm E.2.1 D T (h 46)  y98.1 y98.2 y110 hy110) rfl rfl [] rfl rfl rfl rfl rfl cb_55 rfl (fun H locs X => ?_)
    refine x_lload 115 C dX10_nearest_113 hl 4 rfl rfl ?_
    refine x_lcmp_ge 131 116 119 C dX10_nearest_115 dX10_nearest_116 rfl rfl rfl hf (fun hf => ?_) (fun hf => ?_)
    · refine x_iinc 134 C dX10_nearest_131 (1 : Int32) kv_iconst_1 [(6, .int (v6 + (1 : Int32))), (0, .ref (h 0)), (1, .int v1), (2, .int v2), (3, .int v3), (4, .long v4)] hl 5 rfl rfl rfl rfl (fun ls hl => ?_)
      refine x_goto 52 C dX10_nearest_134 rfl ?_
      exact ih m_one_a m_one_b y98.1 y98.2 v1 v2 v3 v4 (v6 + (1 : Int32)) _ _ _ X (lv_sub hl [1, 2, 3, 4, 5, 0] rfl) hf
    exact w_X10_nearest_119 h C N x m_drawers_full m_drawers_kept m_drawers_partA m_drawers_partB m_drawers_keptA m_drawers_keptB m_drawers_keptFull m_tape_size m_tape_plain m_tape_omegas m_tape_end m_tape_place m_tape_plainTold m_tape_omegasTold m_tape_bytes m_euclid_count m_euclid_last_a m_euclid_last_b m_euclid_lastOfFirst_a m_euclid_lastOfFirst_b m_euclid_lastOfSecond_a m_euclid_lastOfSecond_b m_euclid_next_a m_euclid_next_b m_euclid_nextOfFirst_a m_euclid_nextOfFirst_b m_euclid_nextOfSecond_a m_euclid_nextOfSecond_b m_euclid_q_a m_euclid_q_b m_euclid_quotientA m_euclid_quotientB m_modulus_step m_modulus_width m_modulus_slant m_modulus_square_a m_modulus_square_b m_factors_count m_factors_threes m_factors_unit m_factors_primeA m_factors_primeB m_factors_norms m_factors_euclid_count m_factors_euclid_last_a m_factors_euclid_last_b m_factors_euclid_lastOfFirst_a m_factors_euclid_lastOfFirst_b m_factors_euclid_lastOfSecond_a m_factors_euclid_lastOfSecond_b m_factors_euclid_next_a m_factors_euclid_next_b m_factors_euclid_nextOfFirst_a m_factors_euclid_nextOfFirst_b m_factors_euclid_nextOfSecond_a m_factors_euclid_nextOfSecond_b m_factors_euclid_q_a m_factors_euclid_q_b m_factors_euclid_quotientA m_factors_euclid_quotientB m_factors_left_a m_factors_left_b m_factors_found_a m_factors_found_b m_factors_product_a m_factors_product_b m_primes_count m_primes_primeA m_primes_primeB m_primes_found_a m_primes_found_b m_rings_foundA m_rings_foundB m_rings_all m_rings_mostOfOneRow m_letters_count m_letters_bytes m_three_a m_three_b m_four_a m_four_b m_out_a m_out_b m_spare_a m_spare_b m_marks R (f_X10_nearest_52 N k) ih m_one_a m_one_b y98.1 y98.2 v1 v2 v6 _ _ _ X (lv_sub hl [0, 1, 2, 5] rfl) hf
set_option maxHeartbeats 4000000 in
set_option maxRecDepth 100000 in
theorem c_X10_nearest (l : Launch) (D : va_G) (T : KT) (h : Nat → Nat) (N : Nat) (v1 v2 : Int32) (m_drawers_full m_drawers_kept : Int32) (m_drawers_partA m_drawers_partB m_drawers_keptA m_drawers_keptB m_drawers_keptFull : Nat → Int32) (m_tape_size m_tape_plain m_tape_omegas m_tape_end m_tape_place m_tape_plainTold m_tape_omegasTold : Int32) (m_tape_bytes : Nat → Int32) (m_euclid_count : Int32) (m_euclid_last_a m_euclid_last_b m_euclid_lastOfFirst_a m_euclid_lastOfFirst_b m_euclid_lastOfSecond_a m_euclid_lastOfSecond_b m_euclid_next_a m_euclid_next_b m_euclid_nextOfFirst_a m_euclid_nextOfFirst_b m_euclid_nextOfSecond_a m_euclid_nextOfSecond_b m_euclid_q_a m_euclid_q_b : Int64) (m_euclid_quotientA m_euclid_quotientB : Nat → Int64) (m_modulus_step m_modulus_width m_modulus_slant m_modulus_square_a m_modulus_square_b : Int64) (m_factors_count m_factors_threes m_factors_unit : Int32) (m_factors_primeA m_factors_primeB m_factors_norms : Nat → Int64) (m_factors_euclid_count : Int32) (m_factors_euclid_last_a m_factors_euclid_last_b m_factors_euclid_lastOfFirst_a m_factors_euclid_lastOfFirst_b m_factors_euclid_lastOfSecond_a m_factors_euclid_lastOfSecond_b m_factors_euclid_next_a m_factors_euclid_next_b m_factors_euclid_nextOfFirst_a m_factors_euclid_nextOfFirst_b m_factors_euclid_nextOfSecond_a m_factors_euclid_nextOfSecond_b m_factors_euclid_q_a m_factors_euclid_q_b : Int64) (m_factors_euclid_quotientA m_factors_euclid_quotientB : Nat → Int64) (m_factors_left_a m_factors_left_b m_factors_found_a m_factors_found_b m_factors_product_a m_factors_product_b : Int64) (m_primes_count : Int32) (m_primes_primeA m_primes_primeB : Nat → Int32) (m_primes_found_a m_primes_found_b : Int64) (m_rings_foundA m_rings_foundB m_rings_all m_rings_mostOfOneRow m_letters_count : Int32) (m_letters_bytes : Nat → Int32) (m_one_a m_one_b m_two_a m_two_b m_three_a m_three_b m_four_a m_four_b m_out_a m_out_b m_spare_a m_spare_b : Int64) (m_marks : Nat → Int32) (x : Int32 × Int64 × Int64 × Int64 × Int64) (hf : f_X10_nearest N v1 v2 m_drawers_full m_drawers_partA m_drawers_partB m_one_a m_one_b m_two_a m_two_b = some x) : kx_MI l yX10_nearest cX10_nearest 7 (some .int) 2 46 D T [.ref (h 0), .int v1, .int v2] (wC T h m_drawers_full m_drawers_kept m_drawers_partA m_drawers_partB m_drawers_keptA m_drawers_keptB m_drawers_keptFull m_tape_size m_tape_plain m_tape_omegas m_tape_end m_tape_place m_tape_plainTold m_tape_omegasTold m_tape_bytes m_euclid_count m_euclid_last_a m_euclid_last_b m_euclid_lastOfFirst_a m_euclid_lastOfFirst_b m_euclid_lastOfSecond_a m_euclid_lastOfSecond_b m_euclid_next_a m_euclid_next_b m_euclid_nextOfFirst_a m_euclid_nextOfFirst_b m_euclid_nextOfSecond_a m_euclid_nextOfSecond_b m_euclid_q_a m_euclid_q_b m_euclid_quotientA m_euclid_quotientB m_modulus_step m_modulus_width m_modulus_slant m_modulus_square_a m_modulus_square_b m_factors_count m_factors_threes m_factors_unit m_factors_primeA m_factors_primeB m_factors_norms m_factors_euclid_count m_factors_euclid_last_a m_factors_euclid_last_b m_factors_euclid_lastOfFirst_a m_factors_euclid_lastOfFirst_b m_factors_euclid_lastOfSecond_a m_factors_euclid_lastOfSecond_b m_factors_euclid_next_a m_factors_euclid_next_b m_factors_euclid_nextOfFirst_a m_factors_euclid_nextOfFirst_b m_factors_euclid_nextOfSecond_a m_factors_euclid_nextOfSecond_b m_factors_euclid_q_a m_factors_euclid_q_b m_factors_euclid_quotientA m_factors_euclid_quotientB m_factors_left_a m_factors_left_b m_factors_found_a m_factors_found_b m_factors_product_a m_factors_product_b m_primes_count m_primes_primeA m_primes_primeB m_primes_found_a m_primes_found_b m_rings_foundA m_rings_foundB m_rings_all m_rings_mostOfOneRow m_letters_count m_letters_bytes m_one_a m_one_b m_two_a m_two_b m_three_a m_three_b m_four_a m_four_b m_out_a m_out_b m_spare_a m_spare_b m_marks) (wC T h m_drawers_full m_drawers_kept m_drawers_partA m_drawers_partB m_drawers_keptA m_drawers_keptB m_drawers_keptFull m_tape_size m_tape_plain m_tape_omegas m_tape_end m_tape_place m_tape_plainTold m_tape_omegasTold m_tape_bytes m_euclid_count m_euclid_last_a m_euclid_last_b m_euclid_lastOfFirst_a m_euclid_lastOfFirst_b m_euclid_lastOfSecond_a m_euclid_lastOfSecond_b m_euclid_next_a m_euclid_next_b m_euclid_nextOfFirst_a m_euclid_nextOfFirst_b m_euclid_nextOfSecond_a m_euclid_nextOfSecond_b m_euclid_q_a m_euclid_q_b m_euclid_quotientA m_euclid_quotientB m_modulus_step m_modulus_width m_modulus_slant m_modulus_square_a m_modulus_square_b m_factors_count m_factors_threes m_factors_unit m_factors_primeA m_factors_primeB m_factors_norms m_factors_euclid_count m_factors_euclid_last_a m_factors_euclid_last_b m_factors_euclid_lastOfFirst_a m_factors_euclid_lastOfFirst_b m_factors_euclid_lastOfSecond_a m_factors_euclid_lastOfSecond_b m_factors_euclid_next_a m_factors_euclid_next_b m_factors_euclid_nextOfFirst_a m_factors_euclid_nextOfFirst_b m_factors_euclid_nextOfSecond_a m_factors_euclid_nextOfSecond_b m_factors_euclid_q_a m_factors_euclid_q_b m_factors_euclid_quotientA m_factors_euclid_quotientB m_factors_left_a m_factors_left_b m_factors_found_a m_factors_found_b m_factors_product_a m_factors_product_b m_primes_count m_primes_primeA m_primes_primeB m_primes_found_a m_primes_found_b m_rings_foundA m_rings_foundB m_rings_all m_rings_mostOfOneRow m_letters_count m_letters_bytes x.2.1 x.2.2.1 x.2.2.2.1 x.2.2.2.2 m_three_a m_three_b m_four_a m_four_b m_out_a m_out_b m_spare_a m_spare_b m_marks) x.1 := by
  refine kx_ofMI RX10 rfl (plainFor_of_name (x := yX10_nearest) kpn_X10) rfl ?_
  intro E A H ls _ C X R hl
  have hl : lv_has ls 7 [(0, .ref (h 0)), (1, .int v1), (2, .int v2)] := hl
  rw [f_X10_nearest] at hf
  refine x_iload_n 1 C dX10_nearest_0 hl 1 rfl rfl ?_
  obtain ⟨y1, hy1, hf⟩ := kx_bind hf
  refine x_callSi 4 C dX10_nearest_1 X hl kl_X10_105 (c_X0_isOne E.2.1 D T  v1  y1 hy1) [] rfl rfl rfl rfl rfl cb_2 rfl (fun H locs X => ?_)
  refine x_if_eq 16 7 C dX10_nearest_4 rfl rfl hf (fun hf => ?_) (fun hf => ?_)
  · refine x_iconst 17 C dX10_nearest_16 (-1 : Int32) kv_iconst_m1 rfl ?_
    obtain rfl := Option.some.inj hf
    exact R _ _ _ _ X dX10_nearest_17
  refine x_iload_n 8 C dX10_nearest_7 hl 2 rfl rfl ?_
  refine x_if_lt 16 11 C dX10_nearest_8 rfl rfl hf (fun hf => ?_) (fun hf => ?_)
  · refine x_iconst 17 C dX10_nearest_16 (-1 : Int32) kv_iconst_m1 rfl ?_
    obtain rfl := Option.some.inj hf
    exact R _ _ _ _ X dX10_nearest_17
  refine x_iload_n 12 C dX10_nearest_11 hl 2 rfl rfl ?_
  refine x_iconst 13 C dX10_nearest_12 (1 : Int32) kv_iconst_1 rfl ?_
  refine x_icmp_le 18 16 C dX10_nearest_13 rfl rfl hf (fun hf => ?_) (fun hf => ?_)
  · refine x_aload_n 19 C dX10_nearest_18 hl 0 rfl rfl ?_
    refine x_get 22 C dX10_nearest_19 X kf_X10_12 0 rfl rfl rfl ?_
    refine x_iload_n 23 C dX10_nearest_22 hl 1 rfl rfl ?_
    obtain ⟨y23, hy23, hf⟩ := kx_bind hf
    refine x_callVi 26 C dX10_nearest_23 X hl kl_X10_130 (c_X0_has E.2.1 D T (h 1) (h 2) (h 3) (h 4) (h 5) (h 6) v1 m_drawers_full m_drawers_kept y23 hy23) rfl rfl [] rfl rfl rfl rfl rfl cb_9 rfl (fun H locs X => ?_)
    refine x_if_ne 32 29 C dX10_nearest_26 rfl rfl hf (fun hf => ?_) (fun hf => ?_)
    · refine x_aload_n 33 C dX10_nearest_32 hl 0 rfl rfl ?_
      refine x_get 36 C dX10_nearest_33 X kf_X10_12 0 rfl rfl rfl ?_
      refine x_iload_n 37 C dX10_nearest_36 hl 1 rfl rfl ?_
      refine x_aload_n 38 C dX10_nearest_37 hl 0 rfl rfl ?_
      refine x_get 41 C dX10_nearest_38 X kf_X10_70 0 rfl rfl rfl ?_
      obtain ⟨y41, hy41, hf⟩ := kx_bind hf
      refine x_callVv 44 C dX10_nearest_41 X hl kl_X10_141 (c_X0_load E.2.1 D T (h 1) (h 2) (h 3) (h 4) (h 5) (h 6) (h 45) v1 m_drawers_full m_drawers_kept m_drawers_partA m_drawers_partB m_one_a m_one_b y41 hy41) rfl rfl [] rfl rfl rfl rfl rfl cb_11 rfl (fun H locs X => ?_)
      refine x_iconst 45 C dX10_nearest_44 (-1 : Int32) kv_iconst_m1 rfl ?_
      refine x_istore_n 46 C dX10_nearest_45 [(3, .int (-1 : Int32)), (0, .ref (h 0)), (1, .int v1), (2, .int v2)] hl rfl rfl rfl (fun ls hl => ?_)
      refine x_lconst 47 C dX10_nearest_46 (0 : Int64) kv_lconst_0 rfl ?_
      refine x_lstore 49 C dX10_nearest_47 [(4, .long (0 : Int64)), (3, .int (-1 : Int32)), (0, .ref (h 0)), (1, .int v1), (2, .int v2)] hl rfl rfl rfl (fun ls hl => ?_)
      refine x_iconst 50 C dX10_nearest_49 (0 : Int32) kv_iconst_0 rfl ?_
      refine x_istore 52 C dX10_nearest_50 [(6, .int (0 : Int32)), (4, .long (0 : Int64)), (3, .int (-1 : Int32)), (0, .ref (h 0)), (1, .int v1), (2, .int v2)] hl rfl rfl rfl (fun ls hl => ?_)
      exact w_X10_nearest_52 h C N x m_drawers_full m_drawers_kept m_drawers_partA m_drawers_partB m_drawers_keptA m_drawers_keptB m_drawers_keptFull m_tape_size m_tape_plain m_tape_omegas m_tape_end m_tape_place m_tape_plainTold m_tape_omegasTold m_tape_bytes m_euclid_count m_euclid_last_a m_euclid_last_b m_euclid_lastOfFirst_a m_euclid_lastOfFirst_b m_euclid_lastOfSecond_a m_euclid_lastOfSecond_b m_euclid_next_a m_euclid_next_b m_euclid_nextOfFirst_a m_euclid_nextOfFirst_b m_euclid_nextOfSecond_a m_euclid_nextOfSecond_b m_euclid_q_a m_euclid_q_b m_euclid_quotientA m_euclid_quotientB m_modulus_step m_modulus_width m_modulus_slant m_modulus_square_a m_modulus_square_b m_factors_count m_factors_threes m_factors_unit m_factors_primeA m_factors_primeB m_factors_norms m_factors_euclid_count m_factors_euclid_last_a m_factors_euclid_last_b m_factors_euclid_lastOfFirst_a m_factors_euclid_lastOfFirst_b m_factors_euclid_lastOfSecond_a m_factors_euclid_lastOfSecond_b m_factors_euclid_next_a m_factors_euclid_next_b m_factors_euclid_nextOfFirst_a m_factors_euclid_nextOfFirst_b m_factors_euclid_nextOfSecond_a m_factors_euclid_nextOfSecond_b m_factors_euclid_q_a m_factors_euclid_q_b m_factors_euclid_quotientA m_factors_euclid_quotientB m_factors_left_a m_factors_left_b m_factors_found_a m_factors_found_b m_factors_product_a m_factors_product_b m_primes_count m_primes_primeA m_primes_primeB m_primes_found_a m_primes_found_b m_rings_foundA m_rings_foundB m_rings_all m_rings_mostOfOneRow m_letters_count m_letters_bytes m_three_a m_three_b m_four_a m_four_b m_out_a m_out_b m_spare_a m_spare_b m_marks R  N y41.1 y41.2 m_two_a m_two_b v1 v2 (-1 : Int32) (0 : Int64) (0 : Int32) _ _ _ X (lv_sub hl [3, 4, 5, 2, 1, 0] rfl) hf
    refine x_bipush 31 C dX10_nearest_29 (-2 : Int32) kv_bipush_m2 rfl ?_
    obtain rfl := Option.some.inj hf
    exact R _ _ _ _ X dX10_nearest_31
  refine x_iconst 17 C dX10_nearest_16 (-1 : Int32) kv_iconst_m1 rfl ?_
  obtain rfl := Option.some.inj hf
  exact R _ _ _ _ X dX10_nearest_17
set_option maxHeartbeats 4000000 in
set_option maxRecDepth 100000 in
theorem w_X11_nearest_39 {E : KE} {A : Nat → Prop} {D : va_G} {T : KT} (h : Nat → Nat) (C : kx_C E cX11_nearest 7 (some .int) RX11 2 46 D T) (N : Nat) (x : Int32) (m_taped m_states : Int32) (m_ra m_rb : Int64) (m_threes m_primes m_ones m_unit : Int32) (m_allParts m_allNorms m_allClasses : Int64) (m_odd : Int32) (m_boxWide m_boxHigh m_boxStep : Int64) (m_partingMany : Int32) (m_qa m_qb m_la m_lb m_sa m_sb m_ta m_tb : Int64) (m_listed m_tells m_wanted m_found : Int32) (m_bits : Int64) (m_power2 m_rings m_ringA m_ringB m_seedNow : Int32) (m_tape m_has m_keptHas m_first m_second m_keptFirst m_keptSecond m_pa m_pb m_pNorm m_cubed m_isOpen m_signs m_often m_la0 m_lb0 : Nat → Int32) (R : kx_RI E cX11_nearest D A (wM T h m_taped m_states m_ra m_rb m_threes m_primes m_ones m_unit m_allParts m_allNorms m_allClasses m_odd m_boxWide m_boxHigh m_boxStep m_partingMany m_qa m_qb m_la m_lb m_sa m_sb m_ta m_tb m_listed m_tells m_wanted m_found m_bits m_power2 m_rings m_ringA m_ringB m_seedNow m_tape m_has m_keptHas m_first m_second m_keptFirst m_keptSecond m_pa m_pb m_pNorm m_cubed m_isOpen m_signs m_often m_la0 m_lb0) x) : ∀ (k : Nat), ∀  (v1 v2 v3 v4 v5 : Int32) (H : Heap) (locs : List Loc) (ls : Array Slot), kx_H E D A H locs (wM T h m_taped m_states m_ra m_rb m_threes m_primes m_ones m_unit m_allParts m_allNorms m_allClasses m_odd m_boxWide m_boxHigh m_boxStep m_partingMany m_qa m_qb m_la m_lb m_sa m_sb m_ta m_tb m_listed m_tells m_wanted m_found m_bits m_power2 m_rings m_ringA m_ringB m_seedNow m_tape m_has m_keptHas m_first m_second m_keptFirst m_keptSecond m_pa m_pb m_pNorm m_cubed m_isOpen m_signs m_often m_la0 m_lb0) → lv_has ls 7 [(0, .ref (h 0)), (1, .int v1), (2, .int v2), (3, .int v3), (4, .int v4), (5, .int v5)] → f_X11_nearest_39 N k v1 v2 v3 v4 v5 m_has m_first m_second = some x → kx_W E H locs 39 ls [] := by
  intro k
  induction k with
  | zero =>
    intro v1 v2 v3 v4 v5 H locs ls X hl hf
    cases (show (none : Option (Int32)) = some x from hf)
  | succ k ih =>
    intro v1 v2 v3 v4 v5 H locs ls X hl hf
    rw [f_X11_nearest_39] at hf
    refine x_iload 41 C dX11_nearest_39 hl 5 rfl rfl ?_
    refine x_bipush 43 C dX11_nearest_41 (8 : Int32) kv_bipush_8 rfl ?_
    refine x_icmp_ge 128 46 C dX11_nearest_43 rfl rfl hf (fun hf => ?_) (fun hf => ?_)
    · refine x_iload_n 129 C dX11_nearest_128 hl 3 rfl rfl ?_
      refine x_iconst 130 C dX11_nearest_129 (-1 : Int32) kv_iconst_m1 rfl ?_
      refine x_icmp_ne 138 133 C dX11_nearest_130 rfl rfl hf (fun hf => ?_) (fun hf => ?_)
      · refine x_iload_n 139 C dX11_nearest_138 hl 2 rfl rfl ?_
        refine x_if_ne 146 142 C dX11_nearest_139 rfl rfl hf (fun hf => ?_) (fun hf => ?_)
        · refine x_iload 148 C dX11_nearest_146 hl 4 rfl rfl ?_
          obtain rfl := Option.some.inj hf
          exact R _ _ _ _ X dX11_nearest_148
        refine x_iload_n 143 C dX11_nearest_142 hl 3 rfl rfl ?_
        refine x_goto 148 C dX11_nearest_143 rfl ?_
        obtain rfl := Option.some.inj hf
        exact R _ _ _ _ X dX11_nearest_148
      refine x_bipush 135 C dX11_nearest_133 (-3 : Int32) kv_bipush_m3 rfl ?_
      refine x_goto 148 C dX11_nearest_135 rfl ?_
      obtain rfl := Option.some.inj hf
      exact R _ _ _ _ X dX11_nearest_148
    refine x_iload 48 C dX11_nearest_46 hl 5 rfl rfl ?_
    refine x_iload_n 49 C dX11_nearest_48 hl 1 rfl rfl ?_
    refine x_icmp_eq 122 52 C dX11_nearest_49 rfl rfl hf (fun hf => ?_) (fun hf => ?_)
    · refine x_iinc 125 C dX11_nearest_122 (1 : Int32) kv_iconst_1 [(5, .int (v5 + (1 : Int32))), (0, .ref (h 0)), (1, .int v1), (2, .int v2), (3, .int v3), (4, .int v4)] hl 5 rfl rfl rfl rfl (fun ls hl => ?_)
      refine x_goto 39 C dX11_nearest_125 rfl ?_
      exact ih v1 v2 v3 v4 (v5 + (1 : Int32)) _ _ _ X (lv_sub hl [1, 2, 3, 4, 5, 0] rfl) hf
    refine x_aload_n 53 C dX11_nearest_52 hl 0 rfl rfl ?_
    refine x_get 56 C dX11_nearest_53 X kf_X11_13 0 rfl rfl rfl ?_
    refine x_iload 58 C dX11_nearest_56 hl 5 rfl rfl ?_
    refine x_zald 59 C dX11_nearest_58 X 2 rfl hf rfl (fun hf => ?_)
    refine x_if_ne 65 62 C dX11_nearest_59 rfl rfl hf (fun hf => ?_) (fun hf => ?_)
    · refine x_aload_n 66 C dX11_nearest_65 hl 0 rfl rfl ?_
      refine x_get 69 C dX11_nearest_66 X kf_X11_20 0 rfl rfl rfl ?_
      refine x_iload 71 C dX11_nearest_69 hl 5 rfl rfl ?_
      refine x_iald 72 C dX11_nearest_71 X 4 rfl hf rfl (fun hf => ?_)
      refine x_aload_n 73 C dX11_nearest_72 hl 0 rfl rfl ?_
      refine x_get 76 C dX11_nearest_73 X kf_X11_20 0 rfl rfl rfl ?_
      refine x_iload_n 77 C dX11_nearest_76 hl 1 rfl rfl ?_
      refine x_iald 78 C dX11_nearest_77 X 4 rfl hf rfl (fun hf => ?_)
      refine x_isub 79 C dX11_nearest_78 rfl ?_
      refine x_i2l 80 C dX11_nearest_79 rfl ?_
      refine x_aload_n 81 C dX11_nearest_80 hl 0 rfl rfl ?_
      refine x_get 84 C dX11_nearest_81 X kf_X11_24 0 rfl rfl rfl ?_
      refine x_iload 86 C dX11_nearest_84 hl 5 rfl rfl ?_
      refine x_iald 87 C dX11_nearest_86 X 5 rfl hf rfl (fun hf => ?_)
      refine x_aload_n 88 C dX11_nearest_87 hl 0 rfl rfl ?_
      refine x_get 91 C dX11_nearest_88 X kf_X11_24 0 rfl rfl rfl ?_
      refine x_iload_n 92 C dX11_nearest_91 hl 1 rfl rfl ?_
      refine x_iald 93 C dX11_nearest_92 X 5 rfl hf rfl (fun hf => ?_)
      refine x_isub 94 C dX11_nearest_93 rfl ?_
      refine x_i2l 95 C dX11_nearest_94 rfl ?_
      obtain ⟨y95, hy95, hf⟩ := kx_bind hf
      refine x_callSi 98 C dX11_nearest_95 X hl kl_X11_160 (c_X11_normOf E.2.1 D T  (((m_first (v5).toNatClampNeg) - (m_first (v1).toNatClampNeg))).toInt64 (((m_second (v5).toNatClampNeg) - (m_second (v1).toNatClampNeg))).toInt64  y95 hy95) [] rfl rfl rfl rfl rfl cb_7 rfl (fun H locs X => ?_)
      refine x_istore 100 C dX11_nearest_98 [(6, .int y95), (0, .ref (h 0)), (1, .int v1), (2, .int v2), (3, .int v3), (4, .int v4), (5, .int v5)] hl rfl rfl rfl (fun ls hl => ?_)
      refine x_iload_n 101 C dX11_nearest_100 hl 4 rfl rfl ?_
      refine x_iconst 102 C dX11_nearest_101 (-1 : Int32) kv_iconst_m1 rfl ?_
      refine x_icmp_eq 115 105 C dX11_nearest_102 rfl rfl hf (fun hf => ?_) (fun hf => ?_)
      · refine x_iload 117 C dX11_nearest_115 hl 6 rfl rfl ?_
        refine x_istore_n 118 C dX11_nearest_117 [(3, .int v5), (6, .int y95), (0, .ref (h 0)), (1, .int v1), (2, .int v2), (4, .int v4), (5, .int v5)] hl rfl rfl rfl (fun ls hl => ?_)
        refine x_iload 120 C dX11_nearest_118 hl 1 rfl rfl ?_
        refine x_istore 122 C dX11_nearest_120 [(4, .int y95), (3, .int v5), (6, .int y95), (0, .ref (h 0)), (1, .int v1), (2, .int v2), (5, .int v5)] hl rfl rfl rfl (fun ls hl => ?_)
        refine x_iinc 125 C dX11_nearest_122 (1 : Int32) kv_iconst_1 [(5, .int (v5 + (1 : Int32))), (4, .int y95), (3, .int v5), (6, .int y95), (0, .ref (h 0)), (1, .int v1), (2, .int v2)] hl 6 rfl rfl rfl rfl (fun ls hl => ?_)
        refine x_goto 39 C dX11_nearest_125 rfl ?_
        exact ih v1 v2 v5 y95 (v5 + (1 : Int32)) _ _ _ X (lv_sub hl [4, 5, 6, 2, 1, 0] rfl) hf
      refine x_iload 107 C dX11_nearest_105 hl 0 rfl rfl ?_
      refine x_iload 109 C dX11_nearest_107 hl 5 rfl rfl ?_
      refine x_icmp_lt 115 112 C dX11_nearest_109 rfl rfl hf (fun hf => ?_) (fun hf => ?_)
      · refine x_iload 117 C dX11_nearest_115 hl 6 rfl rfl ?_
        refine x_istore_n 118 C dX11_nearest_117 [(3, .int v5), (6, .int y95), (0, .ref (h 0)), (1, .int v1), (2, .int v2), (4, .int v4), (5, .int v5)] hl rfl rfl rfl (fun ls hl => ?_)
        refine x_iload 120 C dX11_nearest_118 hl 1 rfl rfl ?_
        refine x_istore 122 C dX11_nearest_120 [(4, .int y95), (3, .int v5), (6, .int y95), (0, .ref (h 0)), (1, .int v1), (2, .int v2), (5, .int v5)] hl rfl rfl rfl (fun ls hl => ?_)
        refine x_iinc 125 C dX11_nearest_122 (1 : Int32) kv_iconst_1 [(5, .int (v5 + (1 : Int32))), (4, .int y95), (3, .int v5), (6, .int y95), (0, .ref (h 0)), (1, .int v1), (2, .int v2)] hl 6 rfl rfl rfl rfl (fun ls hl => ?_)
        refine x_goto 39 C dX11_nearest_125 rfl ?_
        exact ih v1 v2 v5 y95 (v5 + (1 : Int32)) _ _ _ X (lv_sub hl [4, 5, 6, 2, 1, 0] rfl) hf
      refine x_goto 122 C dX11_nearest_112 rfl ?_
      refine x_iinc 125 C dX11_nearest_122 (1 : Int32) kv_iconst_1 [(5, .int (v5 + (1 : Int32))), (6, .int y95), (0, .ref (h 0)), (1, .int v1), (2, .int v2), (3, .int v3), (4, .int v4)] hl 6 rfl rfl rfl rfl (fun ls hl => ?_)
      refine x_goto 39 C dX11_nearest_125 rfl ?_
      exact ih v1 v2 v3 v4 (v5 + (1 : Int32)) _ _ _ X (lv_sub hl [2, 3, 4, 5, 6, 0] rfl) hf
    refine x_goto 122 C dX11_nearest_62 rfl ?_
    refine x_iinc 125 C dX11_nearest_122 (1 : Int32) kv_iconst_1 [(5, .int (v5 + (1 : Int32))), (0, .ref (h 0)), (1, .int v1), (2, .int v2), (3, .int v3), (4, .int v4)] hl 5 rfl rfl rfl rfl (fun ls hl => ?_)
    refine x_goto 39 C dX11_nearest_125 rfl ?_
    exact ih v1 v2 v3 v4 (v5 + (1 : Int32)) _ _ _ X (lv_sub hl [1, 2, 3, 4, 5, 0] rfl) hf
set_option maxHeartbeats 4000000 in
set_option maxRecDepth 100000 in
theorem c_X11_nearest (l : Launch) (D : va_G) (T : KT) (h : Nat → Nat) (N : Nat) (v1 v2 : Int32) (m_taped m_states : Int32) (m_ra m_rb : Int64) (m_threes m_primes m_ones m_unit : Int32) (m_allParts m_allNorms m_allClasses : Int64) (m_odd : Int32) (m_boxWide m_boxHigh m_boxStep : Int64) (m_partingMany : Int32) (m_qa m_qb m_la m_lb m_sa m_sb m_ta m_tb : Int64) (m_listed m_tells m_wanted m_found : Int32) (m_bits : Int64) (m_power2 m_rings m_ringA m_ringB m_seedNow : Int32) (m_tape m_has m_keptHas m_first m_second m_keptFirst m_keptSecond m_pa m_pb m_pNorm m_cubed m_isOpen m_signs m_often m_la0 m_lb0 : Nat → Int32) (x : Int32) (hf : f_X11_nearest N v1 v2 m_has m_first m_second = some x) : kx_MI l yX11_nearest cX11_nearest 7 (some .int) 2 46 D T [.ref (h 0), .int v1, .int v2] (wM T h m_taped m_states m_ra m_rb m_threes m_primes m_ones m_unit m_allParts m_allNorms m_allClasses m_odd m_boxWide m_boxHigh m_boxStep m_partingMany m_qa m_qb m_la m_lb m_sa m_sb m_ta m_tb m_listed m_tells m_wanted m_found m_bits m_power2 m_rings m_ringA m_ringB m_seedNow m_tape m_has m_keptHas m_first m_second m_keptFirst m_keptSecond m_pa m_pb m_pNorm m_cubed m_isOpen m_signs m_often m_la0 m_lb0) (wM T h m_taped m_states m_ra m_rb m_threes m_primes m_ones m_unit m_allParts m_allNorms m_allClasses m_odd m_boxWide m_boxHigh m_boxStep m_partingMany m_qa m_qb m_la m_lb m_sa m_sb m_ta m_tb m_listed m_tells m_wanted m_found m_bits m_power2 m_rings m_ringA m_ringB m_seedNow m_tape m_has m_keptHas m_first m_second m_keptFirst m_keptSecond m_pa m_pb m_pNorm m_cubed m_isOpen m_signs m_often m_la0 m_lb0) x := by
  refine kx_ofMI RX11 rfl (plainFor_of_name (x := yX11_nearest) kpn_X11) rfl ?_
  intro E A H ls _ C X R hl
  have hl : lv_has ls 7 [(0, .ref (h 0)), (1, .int v1), (2, .int v2)] := hl
  rw [f_X11_nearest] at hf
  refine x_iload_n 1 C dX11_nearest_0 hl 1 rfl rfl ?_
  obtain ⟨y1, hy1, hf⟩ := kx_bind hf
  refine x_callSi 4 C dX11_nearest_1 X hl kl_X11_85 (c_X11_isDrawer E.2.1 D T  v1  y1 hy1) [] rfl rfl rfl rfl rfl cb_7 rfl (fun H locs X => ?_)
  refine x_if_eq 17 7 C dX11_nearest_4 rfl rfl hf (fun hf => ?_) (fun hf => ?_)
  · refine x_iconst 18 C dX11_nearest_17 (-1 : Int32) kv_iconst_m1 rfl ?_
    obtain rfl := Option.some.inj hf
    exact R _ _ _ _ X dX11_nearest_18
  refine x_iload_n 8 C dX11_nearest_7 hl 2 rfl rfl ?_
  refine x_i2l 9 C dX11_nearest_8 rfl ?_
  refine x_lconst 10 C dX11_nearest_9 (0 : Int64) kv_lconst_0 rfl ?_
  refine x_lconst 11 C dX11_nearest_10 (1 : Int64) kv_lconst_1 rfl ?_
  obtain ⟨y11, hy11, hf⟩ := kx_bind hf
  refine x_callSi 14 C dX11_nearest_11 X hl kl_X11_77 (c_X11_in E.2.1 D T  (v2).toInt64 (0 : Int64) (1 : Int64)  y11 hy11) [] rfl rfl rfl rfl rfl cb_7 rfl (fun H locs X => ?_)
  refine x_if_ne 19 17 C dX11_nearest_14 rfl rfl hf (fun hf => ?_) (fun hf => ?_)
  · refine x_aload_n 20 C dX11_nearest_19 hl 0 rfl rfl ?_
    refine x_get 23 C dX11_nearest_20 X kf_X11_13 0 rfl rfl rfl ?_
    refine x_iload_n 24 C dX11_nearest_23 hl 1 rfl rfl ?_
    refine x_zald 25 C dX11_nearest_24 X 2 rfl hf rfl (fun hf => ?_)
    refine x_if_ne 31 28 C dX11_nearest_25 rfl rfl hf (fun hf => ?_) (fun hf => ?_)
    · refine x_iconst 32 C dX11_nearest_31 (-1 : Int32) kv_iconst_m1 rfl ?_
      refine x_istore_n 33 C dX11_nearest_32 [(3, .int (-1 : Int32)), (0, .ref (h 0)), (1, .int v1), (2, .int v2)] hl rfl rfl rfl (fun ls hl => ?_)
      refine x_iconst 34 C dX11_nearest_33 (0 : Int32) kv_iconst_0 rfl ?_
      refine x_istore 36 C dX11_nearest_34 [(4, .int (0 : Int32)), (3, .int (-1 : Int32)), (0, .ref (h 0)), (1, .int v1), (2, .int v2)] hl rfl rfl rfl (fun ls hl => ?_)
      refine x_iconst 37 C dX11_nearest_36 (0 : Int32) kv_iconst_0 rfl ?_
      refine x_istore 39 C dX11_nearest_37 [(5, .int (0 : Int32)), (4, .int (0 : Int32)), (3, .int (-1 : Int32)), (0, .ref (h 0)), (1, .int v1), (2, .int v2)] hl rfl rfl rfl (fun ls hl => ?_)
      exact w_X11_nearest_39 h C N x m_taped m_states m_ra m_rb m_threes m_primes m_ones m_unit m_allParts m_allNorms m_allClasses m_odd m_boxWide m_boxHigh m_boxStep m_partingMany m_qa m_qb m_la m_lb m_sa m_sb m_ta m_tb m_listed m_tells m_wanted m_found m_bits m_power2 m_rings m_ringA m_ringB m_seedNow m_tape m_has m_keptHas m_first m_second m_keptFirst m_keptSecond m_pa m_pb m_pNorm m_cubed m_isOpen m_signs m_often m_la0 m_lb0 R  N v1 v2 (-1 : Int32) (0 : Int32) (0 : Int32) _ _ _ X (lv_sub hl [3, 4, 5, 2, 1, 0] rfl) hf
    refine x_bipush 30 C dX11_nearest_28 (-2 : Int32) kv_bipush_m2 rfl ?_
    obtain rfl := Option.some.inj hf
    exact R _ _ _ _ X dX11_nearest_30
  refine x_iconst 18 C dX11_nearest_17 (-1 : Int32) kv_iconst_m1 rfl ?_
  obtain rfl := Option.some.inj hf
  exact R _ _ _ _ X dX11_nearest_18
set_option maxHeartbeats 4000000 in
set_option maxRecDepth 100000 in
theorem c_J9_floorMod_7cf53 (l : Launch) (D : va_G) (T : KT)  (v0 v1 : Int32)  (x : Int32) (hf : f_J9_floorMod_7cf53 v0 v1 = some x) : kx_MI l yJ9_floorMod_7cf53 cJ9_floorMod_7cf53 3 (some .int) 0 0 D T [.int v0, .int v1] (w4_ T  ) (w4_ T  ) x := by
  refine kx_ofMI RJ9 rfl (by decide +kernel) rfl ?_
  intro E A H ls _ C X R hl
  have hl : lv_has ls 3 [(0, .int v0), (1, .int v1)] := hl
  rw [f_J9_floorMod_7cf53] at hf
  refine x_iload_n 1 C dJ9_floorMod_7cf53_0 hl 0 rfl rfl ?_
  refine x_iload_n 2 C dJ9_floorMod_7cf53_1 hl 1 rfl rfl ?_
  refine x_irem 3 C dJ9_floorMod_7cf53_2 hf rfl (fun hf => ?_)
  refine x_istore_n 4 C dJ9_floorMod_7cf53_3 [(2, .int (v0 - v0 / v1 * v1)), (0, .int v0), (1, .int v1)] hl rfl rfl rfl (fun ls hl => ?_)
  refine x_iload_n 5 C dJ9_floorMod_7cf53_4 hl 1 rfl rfl ?_
  refine x_iload_n 6 C dJ9_floorMod_7cf53_5 hl 2 rfl rfl ?_
  refine x_ixor 7 C dJ9_floorMod_7cf53_6 rfl ?_
  refine x_if_ge 18 10 C dJ9_floorMod_7cf53_7 rfl rfl hf (fun hf => ?_) (fun hf => ?_)
  · refine x_iload_n 19 C dJ9_floorMod_7cf53_18 hl 0 rfl rfl ?_
    obtain rfl := Option.some.inj hf
    exact R _ _ _ _ X dJ9_floorMod_7cf53_19
  refine x_iload_n 11 C dJ9_floorMod_7cf53_10 hl 0 rfl rfl ?_
  refine x_if_eq 18 14 C dJ9_floorMod_7cf53_11 rfl rfl hf (fun hf => ?_) (fun hf => ?_)
  · refine x_iload_n 19 C dJ9_floorMod_7cf53_18 hl 0 rfl rfl ?_
    obtain rfl := Option.some.inj hf
    exact R _ _ _ _ X dJ9_floorMod_7cf53_19
  refine x_iload_n 15 C dJ9_floorMod_7cf53_14 hl 0 rfl rfl ?_
  refine x_iload_n 16 C dJ9_floorMod_7cf53_15 hl 2 rfl rfl ?_
  refine x_iadd 17 C dJ9_floorMod_7cf53_16 rfl ?_
  obtain rfl := Option.some.inj hf
  exact R _ _ _ _ X dJ9_floorMod_7cf53_17
set_option maxHeartbeats 4000000 in
set_option maxRecDepth 100000 in
theorem c_X7_isWanted (l : Launch) (D : va_G) (T : KT)  (v0 v1 v2 : Int32)  (x : Int32) (hf : f_X7_isWanted v0 v1 v2 = some x) : kx_MI l yX7_isWanted cX7_isWanted 3 (some .boolean) 1 22 D T [.int v0, .int v1, .int v2] (w4_ T  ) (w4_ T  ) x := by
  refine kx_ofMZ RX7 rfl (plainFor_of_name (x := yX7_isWanted) kpn_X7) rfl ?_
  intro E A H ls _ C X R hl
  have hl : lv_has ls 3 [(0, .int v0), (1, .int v1), (2, .int v2)] := hl
  rw [f_X7_isWanted] at hf
  refine x_iload_n 1 C dX7_isWanted_0 hl 2 rfl rfl ?_
  refine kx_sw hf (fun hs0 hf => ?_) (fun hs0 hf => ?_)
  · refine x_lookup (off := 27) 28 C dX7_isWanted_1 (by decide) (by rw [hs0]; decide) rfl ?_
    refine x_iconst 29 C dX7_isWanted_28 (1 : Int32) kv_iconst_1 rfl ?_
    obtain rfl := Option.some.inj hf
    exact R _ _ _ _ X kb_1 dX7_isWanted_29
  refine kx_sw hf (fun hs1 hf => ?_) (fun hs1 hf => ?_)
  · refine x_lookup (off := 29) 30 C dX7_isWanted_1 (by decide) (by rw [hs1]; decide) rfl ?_
    refine x_iload_n 31 C dX7_isWanted_30 hl 0 rfl rfl ?_
    refine x_if_le 42 34 C dX7_isWanted_31 rfl rfl hf (fun hf => ?_) (fun hf => ?_)
    · refine x_iconst 43 C dX7_isWanted_42 (0 : Int32) kv_iconst_0 rfl ?_
      obtain rfl := Option.some.inj hf
      exact R _ _ _ _ X kb_0 dX7_isWanted_43
    refine x_iload_n 35 C dX7_isWanted_34 hl 1 rfl rfl ?_
    refine x_if_lt 42 38 C dX7_isWanted_35 rfl rfl hf (fun hf => ?_) (fun hf => ?_)
    · refine x_iconst 43 C dX7_isWanted_42 (0 : Int32) kv_iconst_0 rfl ?_
      obtain rfl := Option.some.inj hf
      exact R _ _ _ _ X kb_0 dX7_isWanted_43
    refine x_iconst 39 C dX7_isWanted_38 (1 : Int32) kv_iconst_1 rfl ?_
    refine x_goto 43 C dX7_isWanted_39 rfl ?_
    obtain rfl := Option.some.inj hf
    exact R _ _ _ _ X kb_1 dX7_isWanted_43
  refine x_lookup (off := 43) 44 C dX7_isWanted_1 (by decide) (by rw [lv_osw hs0 (by decide), lv_osw hs1 (by decide)]; rfl) rfl ?_
  refine x_iload_n 45 C dX7_isWanted_44 hl 0 rfl rfl ?_
  refine x_iconst 46 C dX7_isWanted_45 (3 : Int32) kv_iconst_3 rfl ?_
  obtain ⟨y46, hy46, hf⟩ := kx_bind hf
  refine x_callSi0 49 C dX7_isWanted_46 X hl kl_X7_26 (c_J9_floorMod_7cf53 E.2.1 D T  v0 (3 : Int32)  y46 hy46) [] rfl rfl rfl rfl rfl rfl (fun H locs X => ?_)
  refine x_iconst 50 C dX7_isWanted_49 (2 : Int32) kv_iconst_2 rfl ?_
  refine x_icmp_ne 63 53 C dX7_isWanted_50 rfl rfl hf (fun hf => ?_) (fun hf => ?_)
  · refine x_iconst 64 C dX7_isWanted_63 (0 : Int32) kv_iconst_0 rfl ?_
    obtain rfl := Option.some.inj hf
    exact R _ _ _ _ X kb_0 dX7_isWanted_64
  refine x_iload_n 54 C dX7_isWanted_53 hl 1 rfl rfl ?_
  refine x_iconst 55 C dX7_isWanted_54 (3 : Int32) kv_iconst_3 rfl ?_
  refine x_irem0 56 C dX7_isWanted_55 kz_i_3 rfl ?_
  refine x_if_ne 63 59 C dX7_isWanted_56 rfl rfl hf (fun hf => ?_) (fun hf => ?_)
  · refine x_iconst 64 C dX7_isWanted_63 (0 : Int32) kv_iconst_0 rfl ?_
    obtain rfl := Option.some.inj hf
    exact R _ _ _ _ X kb_0 dX7_isWanted_64
  refine x_iconst 60 C dX7_isWanted_59 (1 : Int32) kv_iconst_1 rfl ?_
  refine x_goto 64 C dX7_isWanted_60 rfl ?_
  obtain rfl := Option.some.inj hf
  exact R _ _ _ _ X kb_1 dX7_isWanted_64
set_option maxHeartbeats 4000000 in
set_option maxRecDepth 100000 in
theorem w_X7_seek_76 {E : KE} {A : Nat → Prop} {D : va_G} {T : KT} (h0 : Nat) (C : kx_C E cX7_seek 11 (some .int) RX7 2 44 D T) (N : Nat) (x : Int32 × Int32 × Int32) (m_all m_mostOfOneRow : Int32) (R : kx_RI E cX7_seek D A (w49_X7 T h0 x.2.1 x.2.2 m_all m_mostOfOneRow) x.1) (k22 : Int32 → Int32 → Int32 → Int32 → Int32 → Int32 → Int32 → Int32 → Int32 → Option (Int32 × Int32 × Int32)) (hk22 : ∀ (m_foundA m_foundB : Int32) (v1 v2 v3 v4 v5 v6 v7 : Int32) (H : Heap) (locs : List Loc) (ls : Array Slot), kx_H E D A H locs (w49_X7 T h0 m_foundA m_foundB m_all m_mostOfOneRow) → lv_has ls 11 [(0, .ref h0), (1, .int v1), (2, .int v2), (3, .int v3), (4, .int v4), (5, .int v5), (6, .int v6), (7, .int v7)] → k22 v1 v2 v3 v4 v5 v6 v7 m_foundA m_foundB = some x → kx_W E H locs 22 ls []) : ∀ (k : Nat), ∀ (m_foundA m_foundB : Int32) (v1 v2 v3 v4 v5 v6 v7 v9 : Int32) (H : Heap) (locs : List Loc) (ls : Array Slot), kx_H E D A H locs (w49_X7 T h0 m_foundA m_foundB m_all m_mostOfOneRow) → lv_has ls 11 [(0, .ref h0), (1, .int v1), (2, .int v2), (3, .int v3), (4, .int v4), (5, .int v5), (6, .int v6), (7, .int v7), (9, .int v9)] → f_X7_seek_76 N k22 k v1 v2 v3 v4 v5 v6 v7 v9 m_foundA m_foundB = some x → kx_W E H locs 76 ls [] := by
  intro k
  induction k with
  | zero =>
    intro m_foundA m_foundB v1 v2 v3 v4 v5 v6 v7 v9 H locs ls X hl hf
    cases (show (none : Option (Int32 × Int32 × Int32)) = some x from hf)
  | succ k ih =>
    intro m_foundA m_foundB v1 v2 v3 v4 v5 v6 v7 v9 H locs ls X hl hf
    rw [f_X7_seek_76] at hf
    refine x_iload 78 C dX7_seek_76 hl 8 rfl rfl ?_
    refine x_iconst 79 C dX7_seek_78 (1 : Int32) kv_iconst_1 rfl ?_
    refine x_icmp_gt 137 82 C dX7_seek_79 rfl rfl hf (fun hf => ?_) (fun hf => ?_)
    · refine x_iinc 140 C dX7_seek_137 (1 : Int32) kv_iconst_1 [(7, .int (v7 + (1 : Int32))), (0, .ref h0), (1, .int v1), (2, .int v2), (3, .int v3), (4, .int v4), (5, .int v5), (6, .int v6), (9, .int v9)] hl 7 rfl rfl rfl rfl (fun ls hl => ?_)
      refine x_goto 22 C dX7_seek_140 rfl ?_
      exact hk22 m_foundA m_foundB v1 v2 v3 v4 v5 v6 (v7 + (1 : Int32)) _ _ _ X (lv_sub hl [1, 2, 3, 4, 5, 6, 7, 0] rfl) hf
    refine x_iload 84 C dX7_seek_82 hl 7 rfl rfl ?_
    refine x_iload 86 C dX7_seek_84 hl 8 rfl rfl ?_
    refine x_iload 88 C dX7_seek_86 hl 6 rfl rfl ?_
    refine x_imul 89 C dX7_seek_88 rfl ?_
    refine x_iadd 90 C dX7_seek_89 rfl ?_
    refine x_iconst 91 C dX7_seek_90 (2 : Int32) kv_iconst_2 rfl ?_
    refine x_idiv0 92 C dX7_seek_91 kz_i_2 rfl ?_
    refine x_istore 94 C dX7_seek_92 [(10, .int ((v7 + (v9 * v6)) / (2 : Int32))), (0, .ref h0), (1, .int v1), (2, .int v2), (3, .int v3), (4, .int v4), (5, .int v5), (6, .int v6), (7, .int v7), (9, .int v9)] hl rfl rfl rfl (fun ls hl => ?_)
    refine x_iload 96 C dX7_seek_94 hl 0 rfl rfl ?_
    refine x_iload 98 C dX7_seek_96 hl 8 rfl rfl ?_
    refine x_iload_n 99 C dX7_seek_98 hl 3 rfl rfl ?_
    obtain ⟨y99, hy99, hf⟩ := kx_bind hf
    refine x_callSi 102 C dX7_seek_99 X hl kl_X7_13 (c_X7_isWanted E.2.1 D T  ((v7 + (v9 * v6)) / (2 : Int32)) v7 v2  y99 hy99) [] rfl rfl rfl rfl rfl cb_139 rfl (fun H locs X => ?_)
    refine x_if_eq 131 105 C dX7_seek_102 rfl rfl hf (fun hf => ?_) (fun hf => ?_)
    · refine x_iinc 134 C dX7_seek_131 (2 : Int32) kv_iconst_2 [(9, .int (v9 + (2 : Int32))), (10, .int ((v7 + (v9 * v6)) / (2 : Int32))), (0, .ref h0), (1, .int v1), (2, .int v2), (3, .int v3), (4, .int v4), (5, .int v5), (6, .int v6), (7, .int v7)] hl 9 rfl rfl rfl rfl (fun ls hl => ?_)
      refine x_goto 76 C dX7_seek_134 rfl ?_
      exact ih m_foundA m_foundB v1 v2 v3 v4 v5 v6 v7 (v9 + (2 : Int32)) _ _ _ X (lv_sub hl [2, 3, 4, 5, 6, 7, 8, 9, 0] rfl) hf
    refine x_iinc 108 C dX7_seek_105 (1 : Int32) kv_iconst_1 [(4, .int (v4 + (1 : Int32))), (10, .int ((v7 + (v9 * v6)) / (2 : Int32))), (0, .ref h0), (1, .int v1), (2, .int v2), (3, .int v3), (5, .int v5), (6, .int v6), (7, .int v7), (9, .int v9)] hl 5 rfl rfl rfl rfl (fun ls hl => ?_)
    refine x_iload 110 C dX7_seek_108 hl 0 rfl rfl ?_
    refine x_iconst 111 C dX7_seek_110 (1 : Int32) kv_iconst_1 rfl ?_
    refine x_isub 112 C dX7_seek_111 rfl ?_
    refine x_iload_n 113 C dX7_seek_112 hl 5 rfl rfl ?_
    refine x_icmp_ne 131 116 C dX7_seek_113 rfl rfl hf (fun hf => ?_) (fun hf => ?_)
    · refine x_iinc 134 C dX7_seek_131 (2 : Int32) kv_iconst_2 [(9, .int (v9 + (2 : Int32))), (4, .int (v4 + (1 : Int32))), (10, .int ((v7 + (v9 * v6)) / (2 : Int32))), (0, .ref h0), (1, .int v1), (2, .int v2), (3, .int v3), (5, .int v5), (6, .int v6), (7, .int v7)] hl 9 rfl rfl rfl rfl (fun ls hl => ?_)
      refine x_goto 76 C dX7_seek_134 rfl ?_
      exact ih m_foundA m_foundB v1 v2 v3 (v4 + (1 : Int32)) v5 v6 v7 (v9 + (2 : Int32)) _ _ _ X (lv_sub hl [3, 4, 5, 6, 1, 7, 8, 9, 0] rfl) hf
    refine x_aload_n 117 C dX7_seek_116 hl 2 rfl rfl ?_
    refine x_iload 119 C dX7_seek_117 hl 1 rfl rfl ?_
    refine x_put 122 C dX7_seek_119 X kp_X7_19 0 rfl rfl rfl rfl (w49_X7 T h0 ((v7 + (v9 * v6)) / (2 : Int32)) m_foundB m_all m_mostOfOneRow) rfl rfl (fun H locs X => ?_)
    refine x_aload_n 123 C dX7_seek_122 hl 2 rfl rfl ?_
    refine x_iload 125 C dX7_seek_123 hl 8 rfl rfl ?_
    refine x_put 128 C dX7_seek_125 X kp_X7_23 0 rfl rfl rfl rfl (w49_X7 T h0 ((v7 + (v9 * v6)) / (2 : Int32)) v7 m_all m_mostOfOneRow) rfl rfl (fun H locs X => ?_)
    refine x_iload 130 C dX7_seek_128 hl 0 rfl rfl ?_
    obtain rfl := Option.some.inj hf
    exact R _ _ _ _ X dX7_seek_130
set_option maxHeartbeats 4000000 in
set_option maxRecDepth 100000 in
theorem w_X7_seek_22 {E : KE} {A : Nat → Prop} {D : va_G} {T : KT} (h0 : Nat) (C : kx_C E cX7_seek 11 (some .int) RX7 2 44 D T) (N : Nat) (x : Int32 × Int32 × Int32) (m_all m_mostOfOneRow : Int32) (R : kx_RI E cX7_seek D A (w49_X7 T h0 x.2.1 x.2.2 m_all m_mostOfOneRow) x.1) : ∀ (k : Nat), ∀ (m_foundA m_foundB : Int32) (v1 v2 v3 v4 v5 v6 v7 : Int32) (H : Heap) (locs : List Loc) (ls : Array Slot), kx_H E D A H locs (w49_X7 T h0 m_foundA m_foundB m_all m_mostOfOneRow) → lv_has ls 11 [(0, .ref h0), (1, .int v1), (2, .int v2), (3, .int v3), (4, .int v4), (5, .int v5), (6, .int v6), (7, .int v7)] → f_X7_seek_22 N k v1 v2 v3 v4 v5 v6 v7 m_foundA m_foundB = some x → kx_W E H locs 22 ls [] := by
  intro k
  induction k with
  | zero =>
    intro m_foundA m_foundB v1 v2 v3 v4 v5 v6 v7 H locs ls X hl hf
    cases (show (none : Option (Int32 × Int32 × Int32)) = some x from hf)
  | succ k ih =>
    intro m_foundA m_foundB v1 v2 v3 v4 v5 v6 v7 H locs ls X hl hf
    rw [f_X7_seek_22] at hf
    refine x_iload 24 C dX7_seek_22 hl 7 rfl rfl ?_
    refine x_iload 26 C dX7_seek_24 hl 5 rfl rfl ?_
    refine x_icmp_gt 143 29 C dX7_seek_26 rfl rfl hf (fun hf => ?_) (fun hf => ?_)
    · refine x_iload 145 C dX7_seek_143 hl 4 rfl rfl ?_
      obtain rfl := Option.some.inj hf
      exact R _ _ _ _ X dX7_seek_145
    refine x_iconst 30 C dX7_seek_29 (4 : Int32) kv_iconst_4 rfl ?_
    refine x_iload_n 31 C dX7_seek_30 hl 1 rfl rfl ?_
    refine x_imul 32 C dX7_seek_31 rfl ?_
    refine x_iconst 33 C dX7_seek_32 (3 : Int32) kv_iconst_3 rfl ?_
    refine x_iload 35 C dX7_seek_33 hl 7 rfl rfl ?_
    refine x_imul 36 C dX7_seek_35 rfl ?_
    refine x_iload 38 C dX7_seek_36 hl 7 rfl rfl ?_
    refine x_imul 39 C dX7_seek_38 rfl ?_
    refine x_isub 40 C dX7_seek_39 rfl ?_
    refine x_istore 42 C dX7_seek_40 [(8, .int (((4 : Int32) * v1) - (((3 : Int32) * v7) * v7))), (0, .ref h0), (1, .int v1), (2, .int v2), (3, .int v3), (4, .int v4), (5, .int v5), (6, .int v6), (7, .int v7)] hl rfl rfl rfl (fun ls hl => ?_)
    refine x_iload 44 C dX7_seek_42 hl 0 rfl rfl ?_
    refine x_iload 46 C dX7_seek_44 hl 7 rfl rfl ?_
    obtain ⟨y46, hy46, hf⟩ := kx_bind hf
    refine x_callSi 49 C dX7_seek_46 X hl kl_X7_7 (c_X9_rootFrom E.2.1 D T  N (((4 : Int32) * v1) - (((3 : Int32) * v7) * v7)) v6  y46 hy46) [] rfl rfl rfl rfl rfl cb_139 rfl (fun H locs X => ?_)
    refine x_istore 51 C dX7_seek_49 [(6, .int y46), (8, .int (((4 : Int32) * v1) - (((3 : Int32) * v7) * v7))), (0, .ref h0), (1, .int v1), (2, .int v2), (3, .int v3), (4, .int v4), (5, .int v5), (7, .int v7)] hl rfl rfl rfl (fun ls hl => ?_)
    refine x_iload 53 C dX7_seek_51 hl 0 rfl rfl ?_
    refine x_iload 55 C dX7_seek_53 hl 0 rfl rfl ?_
    refine x_imul 56 C dX7_seek_55 rfl ?_
    refine x_iload 58 C dX7_seek_56 hl 1 rfl rfl ?_
    refine x_icmp_eq 64 61 C dX7_seek_58 rfl rfl hf (fun hf => ?_) (fun hf => ?_)
    · refine x_iload 66 C dX7_seek_64 hl 0 rfl rfl ?_
      refine x_if_ne 73 69 C dX7_seek_66 rfl rfl hf (fun hf => ?_) (fun hf => ?_)
      · refine x_iconst 74 C dX7_seek_73 (-1 : Int32) kv_iconst_m1 rfl ?_
        refine x_istore 76 C dX7_seek_74 [(9, .int (-1 : Int32)), (6, .int y46), (8, .int (((4 : Int32) * v1) - (((3 : Int32) * v7) * v7))), (0, .ref h0), (1, .int v1), (2, .int v2), (3, .int v3), (4, .int v4), (5, .int v5), (7, .int v7)] hl rfl rfl rfl (fun ls hl => ?_)
        exact w_X7_seek_76 h0 C N x m_all m_mostOfOneRow R (f_X7_seek_22 N k) ih N m_foundA m_foundB v1 v2 v3 v4 v5 y46 v7 (-1 : Int32) _ _ _ X (lv_sub hl [3, 4, 5, 6, 7, 8, 1, 9, 0] rfl) hf
      refine x_iconst 70 C dX7_seek_69 (1 : Int32) kv_iconst_1 rfl ?_
      refine x_goto 74 C dX7_seek_70 rfl ?_
      refine x_istore 76 C dX7_seek_74 [(9, .int (1 : Int32)), (6, .int y46), (8, .int (((4 : Int32) * v1) - (((3 : Int32) * v7) * v7))), (0, .ref h0), (1, .int v1), (2, .int v2), (3, .int v3), (4, .int v4), (5, .int v5), (7, .int v7)] hl rfl rfl rfl (fun ls hl => ?_)
      exact w_X7_seek_76 h0 C N x m_all m_mostOfOneRow R (f_X7_seek_22 N k) ih N m_foundA m_foundB v1 v2 v3 v4 v5 y46 v7 (1 : Int32) _ _ _ X (lv_sub hl [3, 4, 5, 6, 7, 8, 1, 9, 0] rfl) hf
    refine x_goto 137 C dX7_seek_61 rfl ?_
    refine x_iinc 140 C dX7_seek_137 (1 : Int32) kv_iconst_1 [(7, .int (v7 + (1 : Int32))), (6, .int y46), (8, .int (((4 : Int32) * v1) - (((3 : Int32) * v7) * v7))), (0, .ref h0), (1, .int v1), (2, .int v2), (3, .int v3), (4, .int v4), (5, .int v5)] hl 8 rfl rfl rfl rfl (fun ls hl => ?_)
    refine x_goto 22 C dX7_seek_140 rfl ?_
    exact ih m_foundA m_foundB v1 v2 v3 v4 v5 y46 (v7 + (1 : Int32)) _ _ _ X (lv_sub hl [3, 4, 5, 6, 7, 8, 1, 0] rfl) hf
set_option maxHeartbeats 4000000 in
set_option maxRecDepth 100000 in
theorem c_X7_seek (l : Launch) (D : va_G) (T : KT) (h0 : Nat) (N : Nat) (v1 v2 v3 : Int32) (m_foundA m_foundB m_all m_mostOfOneRow : Int32) (x : Int32 × Int32 × Int32) (hf : f_X7_seek N v1 v2 v3 m_foundA m_foundB = some x) : kx_MI l yX7_seek cX7_seek 11 (some .int) 2 44 D T [.ref h0, .int v1, .int v2, .int v3] (w49_X7 T h0 m_foundA m_foundB m_all m_mostOfOneRow) (w49_X7 T h0 x.2.1 x.2.2 m_all m_mostOfOneRow) x.1 := by
  refine kx_ofMI RX7 rfl (plainFor_of_name (x := yX7_seek) kpn_X7) rfl ?_
  intro E A H ls _ C X R hl
  have hl : lv_has ls 11 [(0, .ref h0), (1, .int v1), (2, .int v2), (3, .int v3)] := hl
  rw [f_X7_seek] at hf
  refine x_iconst 1 C dX7_seek_0 (0 : Int32) kv_iconst_0 rfl ?_
  refine x_istore 3 C dX7_seek_1 [(4, .int (0 : Int32)), (0, .ref h0), (1, .int v1), (2, .int v2), (3, .int v3)] hl rfl rfl rfl (fun ls hl => ?_)
  refine x_iconst 4 C dX7_seek_3 (4 : Int32) kv_iconst_4 rfl ?_
  refine x_iload_n 5 C dX7_seek_4 hl 2 rfl rfl ?_
  refine x_imul 6 C dX7_seek_5 rfl ?_
  refine x_iconst 7 C dX7_seek_6 (3 : Int32) kv_iconst_3 rfl ?_
  refine x_idiv0 8 C dX7_seek_7 kz_i_3 rfl ?_
  refine x_iconst 9 C dX7_seek_8 (0 : Int32) kv_iconst_0 rfl ?_
  obtain ⟨y9, hy9, hf⟩ := kx_bind hf
  refine x_callSi 12 C dX7_seek_9 X hl kl_X7_7 (c_X9_rootFrom E.2.1 D T  N (((4 : Int32) * v1) / (3 : Int32)) (0 : Int32)  y9 hy9) [] rfl rfl rfl rfl rfl cb_139 rfl (fun H locs X => ?_)
  refine x_istore 14 C dX7_seek_12 [(5, .int y9), (4, .int (0 : Int32)), (0, .ref h0), (1, .int v1), (2, .int v2), (3, .int v3)] hl rfl rfl rfl (fun ls hl => ?_)
  refine x_iconst 15 C dX7_seek_14 (0 : Int32) kv_iconst_0 rfl ?_
  refine x_istore 17 C dX7_seek_15 [(6, .int (0 : Int32)), (5, .int y9), (4, .int (0 : Int32)), (0, .ref h0), (1, .int v1), (2, .int v2), (3, .int v3)] hl rfl rfl rfl (fun ls hl => ?_)
  refine x_iload 19 C dX7_seek_17 hl 1 rfl rfl ?_
  refine x_ineg 20 C dX7_seek_19 rfl ?_
  refine x_istore 22 C dX7_seek_20 [(7, .int (-y9)), (6, .int (0 : Int32)), (5, .int y9), (4, .int (0 : Int32)), (0, .ref h0), (1, .int v1), (2, .int v2), (3, .int v3)] hl rfl rfl rfl (fun ls hl => ?_)
  exact w_X7_seek_22 h0 C N x m_all m_mostOfOneRow R  N m_foundA m_foundB v1 v2 v3 (0 : Int32) y9 (0 : Int32) (-y9) _ _ _ X (lv_sub hl [4, 5, 6, 7, 3, 2, 1, 0] rfl) hf
set_option maxHeartbeats 4000000 in
set_option maxRecDepth 100000 in
theorem c_X10_ring (l : Launch) (D : va_G) (T : KT) (h : Nat → Nat) (N : Nat) (v1 v2 : Int32) (m_drawers_full m_drawers_kept : Int32) (m_drawers_partA m_drawers_partB m_drawers_keptA m_drawers_keptB m_drawers_keptFull : Nat → Int32) (m_tape_size m_tape_plain m_tape_omegas m_tape_end m_tape_place m_tape_plainTold m_tape_omegasTold : Int32) (m_tape_bytes : Nat → Int32) (m_euclid_count : Int32) (m_euclid_last_a m_euclid_last_b m_euclid_lastOfFirst_a m_euclid_lastOfFirst_b m_euclid_lastOfSecond_a m_euclid_lastOfSecond_b m_euclid_next_a m_euclid_next_b m_euclid_nextOfFirst_a m_euclid_nextOfFirst_b m_euclid_nextOfSecond_a m_euclid_nextOfSecond_b m_euclid_q_a m_euclid_q_b : Int64) (m_euclid_quotientA m_euclid_quotientB : Nat → Int64) (m_modulus_step m_modulus_width m_modulus_slant m_modulus_square_a m_modulus_square_b : Int64) (m_factors_count m_factors_threes m_factors_unit : Int32) (m_factors_primeA m_factors_primeB m_factors_norms : Nat → Int64) (m_factors_euclid_count : Int32) (m_factors_euclid_last_a m_factors_euclid_last_b m_factors_euclid_lastOfFirst_a m_factors_euclid_lastOfFirst_b m_factors_euclid_lastOfSecond_a m_factors_euclid_lastOfSecond_b m_factors_euclid_next_a m_factors_euclid_next_b m_factors_euclid_nextOfFirst_a m_factors_euclid_nextOfFirst_b m_factors_euclid_nextOfSecond_a m_factors_euclid_nextOfSecond_b m_factors_euclid_q_a m_factors_euclid_q_b : Int64) (m_factors_euclid_quotientA m_factors_euclid_quotientB : Nat → Int64) (m_factors_left_a m_factors_left_b m_factors_found_a m_factors_found_b m_factors_product_a m_factors_product_b : Int64) (m_primes_count : Int32) (m_primes_primeA m_primes_primeB : Nat → Int32) (m_primes_found_a m_primes_found_b : Int64) (m_rings_foundA m_rings_foundB m_rings_all m_rings_mostOfOneRow m_letters_count : Int32) (m_letters_bytes : Nat → Int32) (m_one_a m_one_b m_two_a m_two_b m_three_a m_three_b m_four_a m_four_b m_out_a m_out_b m_spare_a m_spare_b : Int64) (m_marks : Nat → Int32) (x : Int32 × Int32 × Int32) (hf : f_X10_ring N v1 v2 m_rings_foundA m_rings_foundB = some x) : kx_MI l yX10_ring cX10_ring 3 (some .int) 3 74 D T [.ref (h 0), .int v1, .int v2] (wC T h m_drawers_full m_drawers_kept m_drawers_partA m_drawers_partB m_drawers_keptA m_drawers_keptB m_drawers_keptFull m_tape_size m_tape_plain m_tape_omegas m_tape_end m_tape_place m_tape_plainTold m_tape_omegasTold m_tape_bytes m_euclid_count m_euclid_last_a m_euclid_last_b m_euclid_lastOfFirst_a m_euclid_lastOfFirst_b m_euclid_lastOfSecond_a m_euclid_lastOfSecond_b m_euclid_next_a m_euclid_next_b m_euclid_nextOfFirst_a m_euclid_nextOfFirst_b m_euclid_nextOfSecond_a m_euclid_nextOfSecond_b m_euclid_q_a m_euclid_q_b m_euclid_quotientA m_euclid_quotientB m_modulus_step m_modulus_width m_modulus_slant m_modulus_square_a m_modulus_square_b m_factors_count m_factors_threes m_factors_unit m_factors_primeA m_factors_primeB m_factors_norms m_factors_euclid_count m_factors_euclid_last_a m_factors_euclid_last_b m_factors_euclid_lastOfFirst_a m_factors_euclid_lastOfFirst_b m_factors_euclid_lastOfSecond_a m_factors_euclid_lastOfSecond_b m_factors_euclid_next_a m_factors_euclid_next_b m_factors_euclid_nextOfFirst_a m_factors_euclid_nextOfFirst_b m_factors_euclid_nextOfSecond_a m_factors_euclid_nextOfSecond_b m_factors_euclid_q_a m_factors_euclid_q_b m_factors_euclid_quotientA m_factors_euclid_quotientB m_factors_left_a m_factors_left_b m_factors_found_a m_factors_found_b m_factors_product_a m_factors_product_b m_primes_count m_primes_primeA m_primes_primeB m_primes_found_a m_primes_found_b m_rings_foundA m_rings_foundB m_rings_all m_rings_mostOfOneRow m_letters_count m_letters_bytes m_one_a m_one_b m_two_a m_two_b m_three_a m_three_b m_four_a m_four_b m_out_a m_out_b m_spare_a m_spare_b m_marks) (wC T h m_drawers_full m_drawers_kept m_drawers_partA m_drawers_partB m_drawers_keptA m_drawers_keptB m_drawers_keptFull m_tape_size m_tape_plain m_tape_omegas m_tape_end m_tape_place m_tape_plainTold m_tape_omegasTold m_tape_bytes m_euclid_count m_euclid_last_a m_euclid_last_b m_euclid_lastOfFirst_a m_euclid_lastOfFirst_b m_euclid_lastOfSecond_a m_euclid_lastOfSecond_b m_euclid_next_a m_euclid_next_b m_euclid_nextOfFirst_a m_euclid_nextOfFirst_b m_euclid_nextOfSecond_a m_euclid_nextOfSecond_b m_euclid_q_a m_euclid_q_b m_euclid_quotientA m_euclid_quotientB m_modulus_step m_modulus_width m_modulus_slant m_modulus_square_a m_modulus_square_b m_factors_count m_factors_threes m_factors_unit m_factors_primeA m_factors_primeB m_factors_norms m_factors_euclid_count m_factors_euclid_last_a m_factors_euclid_last_b m_factors_euclid_lastOfFirst_a m_factors_euclid_lastOfFirst_b m_factors_euclid_lastOfSecond_a m_factors_euclid_lastOfSecond_b m_factors_euclid_next_a m_factors_euclid_next_b m_factors_euclid_nextOfFirst_a m_factors_euclid_nextOfFirst_b m_factors_euclid_nextOfSecond_a m_factors_euclid_nextOfSecond_b m_factors_euclid_q_a m_factors_euclid_q_b m_factors_euclid_quotientA m_factors_euclid_quotientB m_factors_left_a m_factors_left_b m_factors_found_a m_factors_found_b m_factors_product_a m_factors_product_b m_primes_count m_primes_primeA m_primes_primeB m_primes_found_a m_primes_found_b x.2.1 x.2.2 m_rings_all m_rings_mostOfOneRow m_letters_count m_letters_bytes m_one_a m_one_b m_two_a m_two_b m_three_a m_three_b m_four_a m_four_b m_out_a m_out_b m_spare_a m_spare_b m_marks) x.1 := by
  refine kx_ofMI RX10 rfl (plainFor_of_name (x := yX10_ring) kpn_X10) rfl ?_
  intro E A H ls _ C X R hl
  have hl : lv_has ls 3 [(0, .ref (h 0)), (1, .int v1), (2, .int v2)] := hl
  rw [f_X10_ring] at hf
  refine x_iload_n 1 C dX10_ring_0 hl 1 rfl rfl ?_
  refine x_if_lt 20 4 C dX10_ring_1 rfl rfl hf (fun hf => ?_) (fun hf => ?_)
  · refine x_iconst 21 C dX10_ring_20 (-1 : Int32) kv_iconst_m1 rfl ?_
    obtain rfl := Option.some.inj hf
    exact R _ _ _ _ X dX10_ring_21
  refine x_iload_n 5 C dX10_ring_4 hl 1 rfl rfl ?_
  refine x_ldc_w 8 C dX10_ring_5 (1000000 : Int32) kc_X10_431 rfl ?_
  refine x_icmp_gt 20 11 C dX10_ring_8 rfl rfl hf (fun hf => ?_) (fun hf => ?_)
  · refine x_iconst 21 C dX10_ring_20 (-1 : Int32) kv_iconst_m1 rfl ?_
    obtain rfl := Option.some.inj hf
    exact R _ _ _ _ X dX10_ring_21
  refine x_iload_n 12 C dX10_ring_11 hl 2 rfl rfl ?_
  refine x_if_lt 20 15 C dX10_ring_12 rfl rfl hf (fun hf => ?_) (fun hf => ?_)
  · refine x_iconst 21 C dX10_ring_20 (-1 : Int32) kv_iconst_m1 rfl ?_
    obtain rfl := Option.some.inj hf
    exact R _ _ _ _ X dX10_ring_21
  refine x_iload_n 16 C dX10_ring_15 hl 2 rfl rfl ?_
  refine x_iconst 17 C dX10_ring_16 (2 : Int32) kv_iconst_2 rfl ?_
  refine x_icmp_le 22 20 C dX10_ring_17 rfl rfl hf (fun hf => ?_) (fun hf => ?_)
  · refine x_aload_n 23 C dX10_ring_22 hl 0 rfl rfl ?_
    refine x_get 26 C dX10_ring_23 X kf_X10_56 0 rfl rfl rfl ?_
    refine x_iload_n 27 C dX10_ring_26 hl 1 rfl rfl ?_
    refine x_iload_n 28 C dX10_ring_27 hl 2 rfl rfl ?_
    refine x_iconst 29 C dX10_ring_28 (-1 : Int32) kv_iconst_m1 rfl ?_
    obtain ⟨y29, hy29, hf⟩ := kx_bind hf
    refine x_callVi 32 C dX10_ring_29 X hl kl_X10_432 (c_X7_seek E.2.1 D T (h 42) N v1 v2 (-1 : Int32) m_rings_foundA m_rings_foundB m_rings_all m_rings_mostOfOneRow y29 hy29) rfl rfl [] rfl rfl rfl rfl rfl cb_138 rfl (fun H locs X => ?_)
    obtain rfl := Option.some.inj hf
    exact R _ _ _ _ X dX10_ring_32
  refine x_iconst 21 C dX10_ring_20 (-1 : Int32) kv_iconst_m1 rfl ?_
  obtain rfl := Option.some.inj hf
  exact R _ _ _ _ X dX10_ring_21
set_option maxHeartbeats 4000000 in
set_option maxRecDepth 100000 in
theorem w_X11_laysRing_126 {E : KE} {A : Nat → Prop} {D : va_G} {T : KT} (h : Nat → Nat) (C : kx_C E cX11_laysRing 8 none RX11 3 71 D T) (N : Nat) (x : Int32 × Int32 × Int32) (m_taped m_states : Int32) (m_ra m_rb : Int64) (m_threes m_primes m_ones m_unit : Int32) (m_allParts m_allNorms m_allClasses : Int64) (m_odd : Int32) (m_boxWide m_boxHigh m_boxStep : Int64) (m_partingMany : Int32) (m_qa m_qb m_la m_lb m_sa m_sb m_ta m_tb : Int64) (m_listed m_tells m_wanted m_found : Int32) (m_bits : Int64) (m_power2 m_seedNow : Int32) (m_tape m_has m_keptHas m_first m_second m_keptFirst m_keptSecond m_pa m_pb m_pNorm m_cubed m_isOpen m_signs m_often m_la0 m_lb0 : Nat → Int32) (R : kx_RV E cX11_laysRing D A (wM T h m_taped m_states m_ra m_rb m_threes m_primes m_ones m_unit m_allParts m_allNorms m_allClasses m_odd m_boxWide m_boxHigh m_boxStep m_partingMany m_qa m_qb m_la m_lb m_sa m_sb m_ta m_tb m_listed m_tells m_wanted m_found m_bits m_power2 x.1 x.2.1 x.2.2 m_seedNow m_tape m_has m_keptHas m_first m_second m_keptFirst m_keptSecond m_pa m_pb m_pNorm m_cubed m_isOpen m_signs m_often m_la0 m_lb0)) (k73 : Int32 → Int32 → Int32 → Int32 → Int32 → Int32 → Int32 → Int32 → Int32 → Option (Int32 × Int32 × Int32)) (hk73 : ∀ (m_rings m_ringA m_ringB : Int32) (v1 v2 v3 v4 v5 v6 : Int32) (H : Heap) (locs : List Loc) (ls : Array Slot), kx_H E D A H locs (wM T h m_taped m_states m_ra m_rb m_threes m_primes m_ones m_unit m_allParts m_allNorms m_allClasses m_odd m_boxWide m_boxHigh m_boxStep m_partingMany m_qa m_qb m_la m_lb m_sa m_sb m_ta m_tb m_listed m_tells m_wanted m_found m_bits m_power2 m_rings m_ringA m_ringB m_seedNow m_tape m_has m_keptHas m_first m_second m_keptFirst m_keptSecond m_pa m_pb m_pNorm m_cubed m_isOpen m_signs m_often m_la0 m_lb0) → lv_has ls 8 [(0, .ref (h 0)), (1, .int v1), (2, .int v2), (3, .int v3), (4, .int v4), (5, .int v5), (6, .int v6)] → k73 v1 v2 v3 v4 v5 v6 m_rings m_ringA m_ringB = some x → kx_W E H locs 73 ls []) : ∀ (m_rings m_ringA m_ringB : Int32) (v1 v2 v3 v4 v5 v6 v7 : Int32) (H : Heap) (locs : List Loc) (ls : Array Slot), kx_H E D A H locs (wM T h m_taped m_states m_ra m_rb m_threes m_primes m_ones m_unit m_allParts m_allNorms m_allClasses m_odd m_boxWide m_boxHigh m_boxStep m_partingMany m_qa m_qb m_la m_lb m_sa m_sb m_ta m_tb m_listed m_tells m_wanted m_found m_bits m_power2 m_rings m_ringA m_ringB m_seedNow m_tape m_has m_keptHas m_first m_second m_keptFirst m_keptSecond m_pa m_pb m_pNorm m_cubed m_isOpen m_signs m_often m_la0 m_lb0) → lv_has ls 8 [(0, .ref (h 0)), (1, .int v1), (2, .int v2), (3, .int v3), (4, .int v4), (5, .int v5), (6, .int v6), (7, .int v7)] → f_X11_laysRing_126 N k73 v1 v2 v3 v4 v5 v6 v7 m_rings m_ringA m_ringB = some x → kx_W E H locs 126 ls [] := by
  intro m_rings m_ringA m_ringB v1 v2 v3 v4 v5 v6 v7 H locs ls X hl hf
  rw [f_X11_laysRing_126] at hf
  refine x_aload_n 127 C dX11_laysRing_126 hl 0 rfl rfl ?_
  refine x_get 130 C dX11_laysRing_127 X kf_X11_432 0 rfl rfl rfl ?_
  refine x_iload_n 131 C dX11_laysRing_130 hl 2 rfl rfl ?_
  refine x_icmp_ne 146 134 C dX11_laysRing_131 rfl rfl hf (fun hf => ?_) (fun hf => ?_)
  · refine x_aload_n 147 C dX11_laysRing_146 hl 0 rfl rfl ?_
    refine x_aload_n 148 C dX11_laysRing_147 hl 0 rfl rfl ?_
    refine x_get 151 C dX11_laysRing_148 X kf_X11_432 0 rfl rfl rfl ?_
    refine x_iconst 152 C dX11_laysRing_151 (1 : Int32) kv_iconst_1 rfl ?_
    refine x_iadd 153 C dX11_laysRing_152 rfl ?_
    refine x_put 156 C dX11_laysRing_153 X kp_X11_432 0 rfl rfl rfl rfl (wM T h m_taped m_states m_ra m_rb m_threes m_primes m_ones m_unit m_allParts m_allNorms m_allClasses m_odd m_boxWide m_boxHigh m_boxStep m_partingMany m_qa m_qb m_la m_lb m_sa m_sb m_ta m_tb m_listed m_tells m_wanted m_found m_bits m_power2 (m_rings + (1 : Int32)) m_ringA m_ringB m_seedNow m_tape m_has m_keptHas m_first m_second m_keptFirst m_keptSecond m_pa m_pb m_pNorm m_cubed m_isOpen m_signs m_often m_la0 m_lb0) rfl rfl (fun H locs X => ?_)
    refine x_iload 158 C dX11_laysRing_156 hl 6 rfl rfl ?_
    refine x_iconst 159 C dX11_laysRing_158 (2 : Int32) kv_iconst_2 rfl ?_
    refine x_iadd 160 C dX11_laysRing_159 rfl ?_
    refine x_istore 162 C dX11_laysRing_160 [(6, .int (v6 + (2 : Int32))), (0, .ref (h 0)), (1, .int v1), (2, .int v2), (3, .int v3), (4, .int v4), (5, .int v5), (7, .int v7)] hl rfl rfl rfl (fun ls hl => ?_)
    refine x_goto 73 C dX11_laysRing_162 rfl ?_
    exact hk73 (m_rings + (1 : Int32)) m_ringA m_ringB v1 v2 v3 v4 v5 (v6 + (2 : Int32)) _ _ _ X (lv_sub hl [1, 2, 3, 4, 5, 6, 0] rfl) hf
  refine x_aload_n 135 C dX11_laysRing_134 hl 0 rfl rfl ?_
  refine x_iload 137 C dX11_laysRing_135 hl 7 rfl rfl ?_
  refine x_put 140 C dX11_laysRing_137 X kp_X11_435 0 rfl rfl rfl rfl (wM T h m_taped m_states m_ra m_rb m_threes m_primes m_ones m_unit m_allParts m_allNorms m_allClasses m_odd m_boxWide m_boxHigh m_boxStep m_partingMany m_qa m_qb m_la m_lb m_sa m_sb m_ta m_tb m_listed m_tells m_wanted m_found m_bits m_power2 m_rings v7 m_ringB m_seedNow m_tape m_has m_keptHas m_first m_second m_keptFirst m_keptSecond m_pa m_pb m_pNorm m_cubed m_isOpen m_signs m_often m_la0 m_lb0) rfl rfl (fun H locs X => ?_)
  refine x_aload_n 141 C dX11_laysRing_140 hl 0 rfl rfl ?_
  refine x_iload 143 C dX11_laysRing_141 hl 4 rfl rfl ?_
  refine x_put 146 C dX11_laysRing_143 X kp_X11_438 0 rfl rfl rfl rfl (wM T h m_taped m_states m_ra m_rb m_threes m_primes m_ones m_unit m_allParts m_allNorms m_allClasses m_odd m_boxWide m_boxHigh m_boxStep m_partingMany m_qa m_qb m_la m_lb m_sa m_sb m_ta m_tb m_listed m_tells m_wanted m_found m_bits m_power2 m_rings v7 v4 m_seedNow m_tape m_has m_keptHas m_first m_second m_keptFirst m_keptSecond m_pa m_pb m_pNorm m_cubed m_isOpen m_signs m_often m_la0 m_lb0) rfl rfl (fun H locs X => ?_)
  refine x_aload_n 147 C dX11_laysRing_146 hl 0 rfl rfl ?_
  refine x_aload_n 148 C dX11_laysRing_147 hl 0 rfl rfl ?_
  refine x_get 151 C dX11_laysRing_148 X kf_X11_432 0 rfl rfl rfl ?_
  refine x_iconst 152 C dX11_laysRing_151 (1 : Int32) kv_iconst_1 rfl ?_
  refine x_iadd 153 C dX11_laysRing_152 rfl ?_
  refine x_put 156 C dX11_laysRing_153 X kp_X11_432 0 rfl rfl rfl rfl (wM T h m_taped m_states m_ra m_rb m_threes m_primes m_ones m_unit m_allParts m_allNorms m_allClasses m_odd m_boxWide m_boxHigh m_boxStep m_partingMany m_qa m_qb m_la m_lb m_sa m_sb m_ta m_tb m_listed m_tells m_wanted m_found m_bits m_power2 (m_rings + (1 : Int32)) v7 v4 m_seedNow m_tape m_has m_keptHas m_first m_second m_keptFirst m_keptSecond m_pa m_pb m_pNorm m_cubed m_isOpen m_signs m_often m_la0 m_lb0) rfl rfl (fun H locs X => ?_)
  refine x_iload 158 C dX11_laysRing_156 hl 6 rfl rfl ?_
  refine x_iconst 159 C dX11_laysRing_158 (2 : Int32) kv_iconst_2 rfl ?_
  refine x_iadd 160 C dX11_laysRing_159 rfl ?_
  refine x_istore 162 C dX11_laysRing_160 [(6, .int (v6 + (2 : Int32))), (0, .ref (h 0)), (1, .int v1), (2, .int v2), (3, .int v3), (4, .int v4), (5, .int v5), (7, .int v7)] hl rfl rfl rfl (fun ls hl => ?_)
  refine x_goto 73 C dX11_laysRing_162 rfl ?_
  exact hk73 (m_rings + (1 : Int32)) v7 v4 v1 v2 v3 v4 v5 (v6 + (2 : Int32)) _ _ _ X (lv_sub hl [1, 2, 3, 4, 5, 6, 0] rfl) hf
set_option maxHeartbeats 4000000 in
set_option maxRecDepth 100000 in
theorem w_X11_laysRing_106 {E : KE} {A : Nat → Prop} {D : va_G} {T : KT} (h : Nat → Nat) (C : kx_C E cX11_laysRing 8 none RX11 3 71 D T) (N : Nat) (x : Int32 × Int32 × Int32) (m_taped m_states : Int32) (m_ra m_rb : Int64) (m_threes m_primes m_ones m_unit : Int32) (m_allParts m_allNorms m_allClasses : Int64) (m_odd : Int32) (m_boxWide m_boxHigh m_boxStep : Int64) (m_partingMany : Int32) (m_qa m_qb m_la m_lb m_sa m_sb m_ta m_tb : Int64) (m_listed m_tells m_wanted m_found : Int32) (m_bits : Int64) (m_power2 m_seedNow : Int32) (m_tape m_has m_keptHas m_first m_second m_keptFirst m_keptSecond m_pa m_pb m_pNorm m_cubed m_isOpen m_signs m_often m_la0 m_lb0 : Nat → Int32) (R : kx_RV E cX11_laysRing D A (wM T h m_taped m_states m_ra m_rb m_threes m_primes m_ones m_unit m_allParts m_allNorms m_allClasses m_odd m_boxWide m_boxHigh m_boxStep m_partingMany m_qa m_qb m_la m_lb m_sa m_sb m_ta m_tb m_listed m_tells m_wanted m_found m_bits m_power2 x.1 x.2.1 x.2.2 m_seedNow m_tape m_has m_keptHas m_first m_second m_keptFirst m_keptSecond m_pa m_pb m_pNorm m_cubed m_isOpen m_signs m_often m_la0 m_lb0)) (k73 : Int32 → Int32 → Int32 → Int32 → Int32 → Int32 → Int32 → Int32 → Int32 → Option (Int32 × Int32 × Int32)) (hk73 : ∀ (m_rings m_ringA m_ringB : Int32) (v1 v2 v3 v4 v5 v6 : Int32) (H : Heap) (locs : List Loc) (ls : Array Slot), kx_H E D A H locs (wM T h m_taped m_states m_ra m_rb m_threes m_primes m_ones m_unit m_allParts m_allNorms m_allClasses m_odd m_boxWide m_boxHigh m_boxStep m_partingMany m_qa m_qb m_la m_lb m_sa m_sb m_ta m_tb m_listed m_tells m_wanted m_found m_bits m_power2 m_rings m_ringA m_ringB m_seedNow m_tape m_has m_keptHas m_first m_second m_keptFirst m_keptSecond m_pa m_pb m_pNorm m_cubed m_isOpen m_signs m_often m_la0 m_lb0) → lv_has ls 8 [(0, .ref (h 0)), (1, .int v1), (2, .int v2), (3, .int v3), (4, .int v4), (5, .int v5), (6, .int v6)] → k73 v1 v2 v3 v4 v5 v6 m_rings m_ringA m_ringB = some x → kx_W E H locs 73 ls []) : ∀ (m_rings m_ringA m_ringB : Int32) (v1 v2 v3 v4 v5 v6 v7 : Int32) (H : Heap) (locs : List Loc) (ls : Array Slot), kx_H E D A H locs (wM T h m_taped m_states m_ra m_rb m_threes m_primes m_ones m_unit m_allParts m_allNorms m_allClasses m_odd m_boxWide m_boxHigh m_boxStep m_partingMany m_qa m_qb m_la m_lb m_sa m_sb m_ta m_tb m_listed m_tells m_wanted m_found m_bits m_power2 m_rings m_ringA m_ringB m_seedNow m_tape m_has m_keptHas m_first m_second m_keptFirst m_keptSecond m_pa m_pb m_pNorm m_cubed m_isOpen m_signs m_often m_la0 m_lb0) → lv_has ls 8 [(0, .ref (h 0)), (1, .int v1), (2, .int v2), (3, .int v3), (4, .int v4), (5, .int v5), (6, .int v6), (7, .int v7)] → f_X11_laysRing_106 N k73 v1 v2 v3 v4 v5 v6 v7 m_rings m_ringA m_ringB = some x → kx_W E H locs 106 ls [] := by
  intro m_rings m_ringA m_ringB v1 v2 v3 v4 v5 v6 v7 H locs ls X hl hf
  rw [f_X11_laysRing_106] at hf
  refine x_iload_n 107 C dX11_laysRing_106 hl 3 rfl rfl ?_
  refine x_iconst 108 C dX11_laysRing_107 (2 : Int32) kv_iconst_2 rfl ?_
  refine x_icmp_ne 126 111 C dX11_laysRing_108 rfl rfl hf (fun hf => ?_) (fun hf => ?_)
  · exact w_X11_laysRing_126 h C N x m_taped m_states m_ra m_rb m_threes m_primes m_ones m_unit m_allParts m_allNorms m_allClasses m_odd m_boxWide m_boxHigh m_boxStep m_partingMany m_qa m_qb m_la m_lb m_sa m_sb m_ta m_tb m_listed m_tells m_wanted m_found m_bits m_power2 m_seedNow m_tape m_has m_keptHas m_first m_second m_keptFirst m_keptSecond m_pa m_pb m_pNorm m_cubed m_isOpen m_signs m_often m_la0 m_lb0 R (k73) hk73 m_rings m_ringA m_ringB v1 v2 v3 v4 v5 v6 v7 _ _ _ X (lv_sub hl [0, 1, 2, 3, 4, 5, 6, 7] rfl) hf
  refine x_iload 113 C dX11_laysRing_111 hl 7 rfl rfl ?_
  refine x_i2l 114 C dX11_laysRing_113 rfl ?_
  refine x_iload 116 C dX11_laysRing_114 hl 4 rfl rfl ?_
  refine x_i2l 117 C dX11_laysRing_116 rfl ?_
  obtain ⟨y117, hy117, hf⟩ := kx_bind hf
  refine x_callSi 120 C dX11_laysRing_117 X hl kl_X11_145 (c_X11_isPrimary E.2.1 D T  (v7).toInt64 (v4).toInt64  y117 hy117) [] rfl rfl rfl rfl rfl cb_7 rfl (fun H locs X => ?_)
  refine x_if_ne 126 123 C dX11_laysRing_120 rfl rfl hf (fun hf => ?_) (fun hf => ?_)
  · exact w_X11_laysRing_126 h C N x m_taped m_states m_ra m_rb m_threes m_primes m_ones m_unit m_allParts m_allNorms m_allClasses m_odd m_boxWide m_boxHigh m_boxStep m_partingMany m_qa m_qb m_la m_lb m_sa m_sb m_ta m_tb m_listed m_tells m_wanted m_found m_bits m_power2 m_seedNow m_tape m_has m_keptHas m_first m_second m_keptFirst m_keptSecond m_pa m_pb m_pNorm m_cubed m_isOpen m_signs m_often m_la0 m_lb0 R (k73) hk73 m_rings m_ringA m_ringB v1 v2 v3 v4 v5 v6 v7 _ _ _ X (lv_sub hl [0, 1, 2, 3, 4, 5, 6, 7] rfl) hf
  refine x_goto 156 C dX11_laysRing_123 rfl ?_
  refine x_iload 158 C dX11_laysRing_156 hl 6 rfl rfl ?_
  refine x_iconst 159 C dX11_laysRing_158 (2 : Int32) kv_iconst_2 rfl ?_
  refine x_iadd 160 C dX11_laysRing_159 rfl ?_
  refine x_istore 162 C dX11_laysRing_160 [(6, .int (v6 + (2 : Int32))), (0, .ref (h 0)), (1, .int v1), (2, .int v2), (3, .int v3), (4, .int v4), (5, .int v5), (7, .int v7)] hl rfl rfl rfl (fun ls hl => ?_)
  refine x_goto 73 C dX11_laysRing_162 rfl ?_
  exact hk73 m_rings m_ringA m_ringB v1 v2 v3 v4 v5 (v6 + (2 : Int32)) _ _ _ X (lv_sub hl [1, 2, 3, 4, 5, 6, 0] rfl) hf
set_option maxHeartbeats 4000000 in
set_option maxRecDepth 100000 in
theorem w_X11_laysRing_73 {E : KE} {A : Nat → Prop} {D : va_G} {T : KT} (h : Nat → Nat) (C : kx_C E cX11_laysRing 8 none RX11 3 71 D T) (N : Nat) (x : Int32 × Int32 × Int32) (m_taped m_states : Int32) (m_ra m_rb : Int64) (m_threes m_primes m_ones m_unit : Int32) (m_allParts m_allNorms m_allClasses : Int64) (m_odd : Int32) (m_boxWide m_boxHigh m_boxStep : Int64) (m_partingMany : Int32) (m_qa m_qb m_la m_lb m_sa m_sb m_ta m_tb : Int64) (m_listed m_tells m_wanted m_found : Int32) (m_bits : Int64) (m_power2 m_seedNow : Int32) (m_tape m_has m_keptHas m_first m_second m_keptFirst m_keptSecond m_pa m_pb m_pNorm m_cubed m_isOpen m_signs m_often m_la0 m_lb0 : Nat → Int32) (R : kx_RV E cX11_laysRing D A (wM T h m_taped m_states m_ra m_rb m_threes m_primes m_ones m_unit m_allParts m_allNorms m_allClasses m_odd m_boxWide m_boxHigh m_boxStep m_partingMany m_qa m_qb m_la m_lb m_sa m_sb m_ta m_tb m_listed m_tells m_wanted m_found m_bits m_power2 x.1 x.2.1 x.2.2 m_seedNow m_tape m_has m_keptHas m_first m_second m_keptFirst m_keptSecond m_pa m_pb m_pNorm m_cubed m_isOpen m_signs m_often m_la0 m_lb0)) (k10 : Int32 → Int32 → Int32 → Int32 → Int32 → Int32 → Int32 → Option (Int32 × Int32 × Int32)) (hk10 : ∀ (m_rings m_ringA m_ringB : Int32) (v1 v2 v3 v4 : Int32) (H : Heap) (locs : List Loc) (ls : Array Slot), kx_H E D A H locs (wM T h m_taped m_states m_ra m_rb m_threes m_primes m_ones m_unit m_allParts m_allNorms m_allClasses m_odd m_boxWide m_boxHigh m_boxStep m_partingMany m_qa m_qb m_la m_lb m_sa m_sb m_ta m_tb m_listed m_tells m_wanted m_found m_bits m_power2 m_rings m_ringA m_ringB m_seedNow m_tape m_has m_keptHas m_first m_second m_keptFirst m_keptSecond m_pa m_pb m_pNorm m_cubed m_isOpen m_signs m_often m_la0 m_lb0) → lv_has ls 8 [(0, .ref (h 0)), (1, .int v1), (2, .int v2), (3, .int v3), (4, .int v4)] → k10 v1 v2 v3 v4 m_rings m_ringA m_ringB = some x → kx_W E H locs 10 ls []) : ∀ (k : Nat), ∀ (m_rings m_ringA m_ringB : Int32) (v1 v2 v3 v4 v5 v6 : Int32) (H : Heap) (locs : List Loc) (ls : Array Slot), kx_H E D A H locs (wM T h m_taped m_states m_ra m_rb m_threes m_primes m_ones m_unit m_allParts m_allNorms m_allClasses m_odd m_boxWide m_boxHigh m_boxStep m_partingMany m_qa m_qb m_la m_lb m_sa m_sb m_ta m_tb m_listed m_tells m_wanted m_found m_bits m_power2 m_rings m_ringA m_ringB m_seedNow m_tape m_has m_keptHas m_first m_second m_keptFirst m_keptSecond m_pa m_pb m_pNorm m_cubed m_isOpen m_signs m_often m_la0 m_lb0) → lv_has ls 8 [(0, .ref (h 0)), (1, .int v1), (2, .int v2), (3, .int v3), (4, .int v4), (5, .int v5), (6, .int v6)] → f_X11_laysRing_73 N k10 k v1 v2 v3 v4 v5 v6 m_rings m_ringA m_ringB = some x → kx_W E H locs 73 ls [] := by
  intro k
  induction k with
  | zero =>
    intro m_rings m_ringA m_ringB v1 v2 v3 v4 v5 v6 H locs ls X hl hf
    cases (show (none : Option (Int32 × Int32 × Int32)) = some x from hf)
  | succ k ih =>
    intro m_rings m_ringA m_ringB v1 v2 v3 v4 v5 v6 H locs ls X hl hf
    rw [f_X11_laysRing_73] at hf
    refine x_iload 75 C dX11_laysRing_73 hl 6 rfl rfl ?_
    refine x_iconst 76 C dX11_laysRing_75 (2 : Int32) kv_iconst_2 rfl ?_
    refine x_icmp_ge 165 79 C dX11_laysRing_76 rfl rfl hf (fun hf => ?_) (fun hf => ?_)
    · refine x_iinc 168 C dX11_laysRing_165 (1 : Int32) kv_iconst_1 [(4, .int (v4 + (1 : Int32))), (0, .ref (h 0)), (1, .int v1), (2, .int v2), (3, .int v3), (5, .int v5), (6, .int v6)] hl 4 rfl rfl rfl rfl (fun ls hl => ?_)
      refine x_goto 10 C dX11_laysRing_168 rfl ?_
      exact hk10 m_rings m_ringA m_ringB v1 v2 v3 (v4 + (1 : Int32)) _ _ _ X (lv_sub hl [1, 2, 3, 4, 0] rfl) hf
    refine x_iload 81 C dX11_laysRing_79 hl 4 rfl rfl ?_
    refine x_iload 83 C dX11_laysRing_81 hl 6 rfl rfl ?_
    refine x_iload 85 C dX11_laysRing_83 hl 5 rfl rfl ?_
    refine x_imul 86 C dX11_laysRing_85 rfl ?_
    refine x_iadd 87 C dX11_laysRing_86 rfl ?_
    refine x_iconst 88 C dX11_laysRing_87 (2 : Int32) kv_iconst_2 rfl ?_
    refine x_idiv0 89 C dX11_laysRing_88 kz_i_2 rfl ?_
    refine x_istore 91 C dX11_laysRing_89 [(7, .int ((v4 + (v6 * v5)) / (2 : Int32))), (0, .ref (h 0)), (1, .int v1), (2, .int v2), (3, .int v3), (4, .int v4), (5, .int v5), (6, .int v6)] hl rfl rfl rfl (fun ls hl => ?_)
    refine x_iload_n 92 C dX11_laysRing_91 hl 4 rfl rfl ?_
    refine x_iconst 93 C dX11_laysRing_92 (1 : Int32) kv_iconst_1 rfl ?_
    refine x_icmp_ne 106 96 C dX11_laysRing_93 rfl rfl hf (fun hf => ?_) (fun hf => ?_)
    · exact w_X11_laysRing_106 h C N x m_taped m_states m_ra m_rb m_threes m_primes m_ones m_unit m_allParts m_allNorms m_allClasses m_odd m_boxWide m_boxHigh m_boxStep m_partingMany m_qa m_qb m_la m_lb m_sa m_sb m_ta m_tb m_listed m_tells m_wanted m_found m_bits m_power2 m_seedNow m_tape m_has m_keptHas m_first m_second m_keptFirst m_keptSecond m_pa m_pb m_pNorm m_cubed m_isOpen m_signs m_often m_la0 m_lb0 R (f_X11_laysRing_73 N k10 k) ih m_rings m_ringA m_ringB v1 v2 v3 v4 v5 v6 ((v4 + (v6 * v5)) / (2 : Int32)) _ _ _ X (lv_sub hl [1, 2, 3, 4, 5, 6, 7, 0] rfl) hf
    refine x_iload 98 C dX11_laysRing_96 hl 0 rfl rfl ?_
    refine x_if_le 156 101 C dX11_laysRing_98 rfl rfl hf (fun hf => ?_) (fun hf => ?_)
    · refine x_iload 158 C dX11_laysRing_156 hl 7 rfl rfl ?_
      refine x_iconst 159 C dX11_laysRing_158 (2 : Int32) kv_iconst_2 rfl ?_
      refine x_iadd 160 C dX11_laysRing_159 rfl ?_
      refine x_istore 162 C dX11_laysRing_160 [(6, .int (v6 + (2 : Int32))), (7, .int ((v4 + (v6 * v5)) / (2 : Int32))), (0, .ref (h 0)), (1, .int v1), (2, .int v2), (3, .int v3), (4, .int v4), (5, .int v5)] hl rfl rfl rfl (fun ls hl => ?_)
      refine x_goto 73 C dX11_laysRing_162 rfl ?_
      exact ih m_rings m_ringA m_ringB v1 v2 v3 v4 v5 (v6 + (2 : Int32)) _ _ _ X (lv_sub hl [2, 3, 4, 5, 6, 7, 0] rfl) hf
    refine x_iload 103 C dX11_laysRing_101 hl 5 rfl rfl ?_
    refine x_if_lt 156 106 C dX11_laysRing_103 rfl rfl hf (fun hf => ?_) (fun hf => ?_)
    · refine x_iload 158 C dX11_laysRing_156 hl 7 rfl rfl ?_
      refine x_iconst 159 C dX11_laysRing_158 (2 : Int32) kv_iconst_2 rfl ?_
      refine x_iadd 160 C dX11_laysRing_159 rfl ?_
      refine x_istore 162 C dX11_laysRing_160 [(6, .int (v6 + (2 : Int32))), (7, .int ((v4 + (v6 * v5)) / (2 : Int32))), (0, .ref (h 0)), (1, .int v1), (2, .int v2), (3, .int v3), (4, .int v4), (5, .int v5)] hl rfl rfl rfl (fun ls hl => ?_)
      refine x_goto 73 C dX11_laysRing_162 rfl ?_
      exact ih m_rings m_ringA m_ringB v1 v2 v3 v4 v5 (v6 + (2 : Int32)) _ _ _ X (lv_sub hl [2, 3, 4, 5, 6, 7, 0] rfl) hf
    exact w_X11_laysRing_106 h C N x m_taped m_states m_ra m_rb m_threes m_primes m_ones m_unit m_allParts m_allNorms m_allClasses m_odd m_boxWide m_boxHigh m_boxStep m_partingMany m_qa m_qb m_la m_lb m_sa m_sb m_ta m_tb m_listed m_tells m_wanted m_found m_bits m_power2 m_seedNow m_tape m_has m_keptHas m_first m_second m_keptFirst m_keptSecond m_pa m_pb m_pNorm m_cubed m_isOpen m_signs m_often m_la0 m_lb0 R (f_X11_laysRing_73 N k10 k) ih m_rings m_ringA m_ringB v1 v2 v3 v4 v5 v6 ((v4 + (v6 * v5)) / (2 : Int32)) _ _ _ X (lv_sub hl [1, 2, 3, 4, 5, 6, 7, 0] rfl) hf
set_option maxHeartbeats 4000000 in
set_option maxRecDepth 100000 in
theorem w_X11_laysRing_10 {E : KE} {A : Nat → Prop} {D : va_G} {T : KT} (h : Nat → Nat) (C : kx_C E cX11_laysRing 8 none RX11 3 71 D T) (N : Nat) (x : Int32 × Int32 × Int32) (m_taped m_states : Int32) (m_ra m_rb : Int64) (m_threes m_primes m_ones m_unit : Int32) (m_allParts m_allNorms m_allClasses : Int64) (m_odd : Int32) (m_boxWide m_boxHigh m_boxStep : Int64) (m_partingMany : Int32) (m_qa m_qb m_la m_lb m_sa m_sb m_ta m_tb : Int64) (m_listed m_tells m_wanted m_found : Int32) (m_bits : Int64) (m_power2 m_seedNow : Int32) (m_tape m_has m_keptHas m_first m_second m_keptFirst m_keptSecond m_pa m_pb m_pNorm m_cubed m_isOpen m_signs m_often m_la0 m_lb0 : Nat → Int32) (R : kx_RV E cX11_laysRing D A (wM T h m_taped m_states m_ra m_rb m_threes m_primes m_ones m_unit m_allParts m_allNorms m_allClasses m_odd m_boxWide m_boxHigh m_boxStep m_partingMany m_qa m_qb m_la m_lb m_sa m_sb m_ta m_tb m_listed m_tells m_wanted m_found m_bits m_power2 x.1 x.2.1 x.2.2 m_seedNow m_tape m_has m_keptHas m_first m_second m_keptFirst m_keptSecond m_pa m_pb m_pNorm m_cubed m_isOpen m_signs m_often m_la0 m_lb0)) : ∀ (k : Nat), ∀ (m_rings m_ringA m_ringB : Int32) (v1 v2 v3 v4 : Int32) (H : Heap) (locs : List Loc) (ls : Array Slot), kx_H E D A H locs (wM T h m_taped m_states m_ra m_rb m_threes m_primes m_ones m_unit m_allParts m_allNorms m_allClasses m_odd m_boxWide m_boxHigh m_boxStep m_partingMany m_qa m_qb m_la m_lb m_sa m_sb m_ta m_tb m_listed m_tells m_wanted m_found m_bits m_power2 m_rings m_ringA m_ringB m_seedNow m_tape m_has m_keptHas m_first m_second m_keptFirst m_keptSecond m_pa m_pb m_pNorm m_cubed m_isOpen m_signs m_often m_la0 m_lb0) → lv_has ls 8 [(0, .ref (h 0)), (1, .int v1), (2, .int v2), (3, .int v3), (4, .int v4)] → f_X11_laysRing_10 N k v1 v2 v3 v4 m_rings m_ringA m_ringB = some x → kx_W E H locs 10 ls [] := by
  intro k
  induction k with
  | zero =>
    intro m_rings m_ringA m_ringB v1 v2 v3 v4 H locs ls X hl hf
    cases (show (none : Option (Int32 × Int32 × Int32)) = some x from hf)
  | succ k ih =>
    intro m_rings m_ringA m_ringB v1 v2 v3 v4 H locs ls X hl hf
    rw [f_X11_laysRing_10] at hf
    refine x_iload 12 C dX11_laysRing_10 hl 4 rfl rfl ?_
    refine x_sipush 15 C dX11_laysRing_12 (1200 : Int32) kv_sipush_1200 rfl ?_
    refine x_icmp_gt 171 18 C dX11_laysRing_15 rfl rfl hf (fun hf => ?_) (fun hf => ?_)
    · obtain rfl := Option.some.inj hf
      exact R _ _ _ _ X dX11_laysRing_171
    refine x_iconst 19 C dX11_laysRing_18 (4 : Int32) kv_iconst_4 rfl ?_
    refine x_iload_n 20 C dX11_laysRing_19 hl 1 rfl rfl ?_
    refine x_imul 21 C dX11_laysRing_20 rfl ?_
    refine x_iconst 22 C dX11_laysRing_21 (3 : Int32) kv_iconst_3 rfl ?_
    refine x_iload 24 C dX11_laysRing_22 hl 4 rfl rfl ?_
    refine x_imul 25 C dX11_laysRing_24 rfl ?_
    refine x_iload 27 C dX11_laysRing_25 hl 4 rfl rfl ?_
    refine x_imul 28 C dX11_laysRing_27 rfl ?_
    refine x_isub 29 C dX11_laysRing_28 rfl ?_
    obtain ⟨y29, hy29, hf⟩ := kx_bind hf
    refine x_callSi 32 C dX11_laysRing_29 X hl kl_X11_217 (c_X11_rootOf E.2.1 D T  N (((4 : Int32) * v1) - (((3 : Int32) * v4) * v4))  y29 hy29) [] rfl rfl rfl rfl rfl cb_7 rfl (fun H locs X => ?_)
    refine x_istore 34 C dX11_laysRing_32 [(5, .int y29), (0, .ref (h 0)), (1, .int v1), (2, .int v2), (3, .int v3), (4, .int v4)] hl rfl rfl rfl (fun ls hl => ?_)
    refine x_iload 36 C dX11_laysRing_34 hl 0 rfl rfl ?_
    refine x_if_lt 165 39 C dX11_laysRing_36 rfl rfl hf (fun hf => ?_) (fun hf => ?_)
    · refine x_iinc 168 C dX11_laysRing_165 (1 : Int32) kv_iconst_1 [(4, .int (v4 + (1 : Int32))), (5, .int y29), (0, .ref (h 0)), (1, .int v1), (2, .int v2), (3, .int v3)] hl 5 rfl rfl rfl rfl (fun ls hl => ?_)
      refine x_goto 10 C dX11_laysRing_168 rfl ?_
      exact ih m_rings m_ringA m_ringB v1 v2 v3 (v4 + (1 : Int32)) _ _ _ X (lv_sub hl [2, 3, 4, 5, 0] rfl) hf
    refine x_iload 41 C dX11_laysRing_39 hl 0 rfl rfl ?_
    refine x_iload 43 C dX11_laysRing_41 hl 0 rfl rfl ?_
    refine x_imul 44 C dX11_laysRing_43 rfl ?_
    refine x_iconst 45 C dX11_laysRing_44 (4 : Int32) kv_iconst_4 rfl ?_
    refine x_iload_n 46 C dX11_laysRing_45 hl 2 rfl rfl ?_
    refine x_imul 47 C dX11_laysRing_46 rfl ?_
    refine x_iconst 48 C dX11_laysRing_47 (3 : Int32) kv_iconst_3 rfl ?_
    refine x_iload 50 C dX11_laysRing_48 hl 5 rfl rfl ?_
    refine x_imul 51 C dX11_laysRing_50 rfl ?_
    refine x_iload 53 C dX11_laysRing_51 hl 5 rfl rfl ?_
    refine x_imul 54 C dX11_laysRing_53 rfl ?_
    refine x_isub 55 C dX11_laysRing_54 rfl ?_
    refine x_icmp_eq 61 58 C dX11_laysRing_55 rfl rfl hf (fun hf => ?_) (fun hf => ?_)
    · refine x_iload 63 C dX11_laysRing_61 hl 0 rfl rfl ?_
      refine x_if_ne 70 66 C dX11_laysRing_63 rfl rfl hf (fun hf => ?_) (fun hf => ?_)
      · refine x_iconst 71 C dX11_laysRing_70 (-1 : Int32) kv_iconst_m1 rfl ?_
        refine x_istore 73 C dX11_laysRing_71 [(6, .int (-1 : Int32)), (5, .int y29), (0, .ref (h 0)), (1, .int v1), (2, .int v2), (3, .int v3), (4, .int v4)] hl rfl rfl rfl (fun ls hl => ?_)
        exact w_X11_laysRing_73 h C N x m_taped m_states m_ra m_rb m_threes m_primes m_ones m_unit m_allParts m_allNorms m_allClasses m_odd m_boxWide m_boxHigh m_boxStep m_partingMany m_qa m_qb m_la m_lb m_sa m_sb m_ta m_tb m_listed m_tells m_wanted m_found m_bits m_power2 m_seedNow m_tape m_has m_keptHas m_first m_second m_keptFirst m_keptSecond m_pa m_pb m_pNorm m_cubed m_isOpen m_signs m_often m_la0 m_lb0 R (f_X11_laysRing_10 N k) ih N m_rings m_ringA m_ringB v1 v2 v3 v4 y29 (-1 : Int32) _ _ _ X (lv_sub hl [2, 3, 4, 5, 6, 1, 0] rfl) hf
      refine x_iconst 67 C dX11_laysRing_66 (1 : Int32) kv_iconst_1 rfl ?_
      refine x_goto 71 C dX11_laysRing_67 rfl ?_
      refine x_istore 73 C dX11_laysRing_71 [(6, .int (1 : Int32)), (5, .int y29), (0, .ref (h 0)), (1, .int v1), (2, .int v2), (3, .int v3), (4, .int v4)] hl rfl rfl rfl (fun ls hl => ?_)
      exact w_X11_laysRing_73 h C N x m_taped m_states m_ra m_rb m_threes m_primes m_ones m_unit m_allParts m_allNorms m_allClasses m_odd m_boxWide m_boxHigh m_boxStep m_partingMany m_qa m_qb m_la m_lb m_sa m_sb m_ta m_tb m_listed m_tells m_wanted m_found m_bits m_power2 m_seedNow m_tape m_has m_keptHas m_first m_second m_keptFirst m_keptSecond m_pa m_pb m_pNorm m_cubed m_isOpen m_signs m_often m_la0 m_lb0 R (f_X11_laysRing_10 N k) ih N m_rings m_ringA m_ringB v1 v2 v3 v4 y29 (1 : Int32) _ _ _ X (lv_sub hl [2, 3, 4, 5, 6, 1, 0] rfl) hf
    refine x_goto 165 C dX11_laysRing_58 rfl ?_
    refine x_iinc 168 C dX11_laysRing_165 (1 : Int32) kv_iconst_1 [(4, .int (v4 + (1 : Int32))), (5, .int y29), (0, .ref (h 0)), (1, .int v1), (2, .int v2), (3, .int v3)] hl 5 rfl rfl rfl rfl (fun ls hl => ?_)
    refine x_goto 10 C dX11_laysRing_168 rfl ?_
    exact ih m_rings m_ringA m_ringB v1 v2 v3 (v4 + (1 : Int32)) _ _ _ X (lv_sub hl [2, 3, 4, 5, 0] rfl) hf
set_option maxHeartbeats 4000000 in
set_option maxRecDepth 100000 in
theorem c_X11_laysRing (l : Launch) (D : va_G) (T : KT) (h : Nat → Nat) (N : Nat) (v1 v2 v3 : Int32) (m_taped m_states : Int32) (m_ra m_rb : Int64) (m_threes m_primes m_ones m_unit : Int32) (m_allParts m_allNorms m_allClasses : Int64) (m_odd : Int32) (m_boxWide m_boxHigh m_boxStep : Int64) (m_partingMany : Int32) (m_qa m_qb m_la m_lb m_sa m_sb m_ta m_tb : Int64) (m_listed m_tells m_wanted m_found : Int32) (m_bits : Int64) (m_power2 m_rings m_ringA m_ringB m_seedNow : Int32) (m_tape m_has m_keptHas m_first m_second m_keptFirst m_keptSecond m_pa m_pb m_pNorm m_cubed m_isOpen m_signs m_often m_la0 m_lb0 : Nat → Int32) (x : Int32 × Int32 × Int32) (hf : f_X11_laysRing N v1 v2 v3 m_ringA m_ringB = some x) : kx_MV l yX11_laysRing cX11_laysRing 8 none 3 71 D T [.ref (h 0), .int v1, .int v2, .int v3] (wM T h m_taped m_states m_ra m_rb m_threes m_primes m_ones m_unit m_allParts m_allNorms m_allClasses m_odd m_boxWide m_boxHigh m_boxStep m_partingMany m_qa m_qb m_la m_lb m_sa m_sb m_ta m_tb m_listed m_tells m_wanted m_found m_bits m_power2 m_rings m_ringA m_ringB m_seedNow m_tape m_has m_keptHas m_first m_second m_keptFirst m_keptSecond m_pa m_pb m_pNorm m_cubed m_isOpen m_signs m_often m_la0 m_lb0) (wM T h m_taped m_states m_ra m_rb m_threes m_primes m_ones m_unit m_allParts m_allNorms m_allClasses m_odd m_boxWide m_boxHigh m_boxStep m_partingMany m_qa m_qb m_la m_lb m_sa m_sb m_ta m_tb m_listed m_tells m_wanted m_found m_bits m_power2 x.1 x.2.1 x.2.2 m_seedNow m_tape m_has m_keptHas m_first m_second m_keptFirst m_keptSecond m_pa m_pb m_pNorm m_cubed m_isOpen m_signs m_often m_la0 m_lb0) := by
  refine kx_ofMV RX11 rfl (plainFor_of_name (x := yX11_laysRing) kpn_X11) rfl ?_
  intro E A H ls _ C X R hl
  have hl : lv_has ls 8 [(0, .ref (h 0)), (1, .int v1), (2, .int v2), (3, .int v3)] := hl
  rw [f_X11_laysRing] at hf
  refine x_aload_n 1 C dX11_laysRing_0 hl 0 rfl rfl ?_
  refine x_iconst 2 C dX11_laysRing_1 (0 : Int32) kv_iconst_0 rfl ?_
  refine x_put 5 C dX11_laysRing_2 X kp_X11_432 0 rfl rfl rfl rfl (wM T h m_taped m_states m_ra m_rb m_threes m_primes m_ones m_unit m_allParts m_allNorms m_allClasses m_odd m_boxWide m_boxHigh m_boxStep m_partingMany m_qa m_qb m_la m_lb m_sa m_sb m_ta m_tb m_listed m_tells m_wanted m_found m_bits m_power2 (0 : Int32) m_ringA m_ringB m_seedNow m_tape m_has m_keptHas m_first m_second m_keptFirst m_keptSecond m_pa m_pb m_pNorm m_cubed m_isOpen m_signs m_often m_la0 m_lb0) rfl rfl (fun H locs X => ?_)
  refine x_sipush 8 C dX11_laysRing_5 (-1200 : Int32) kv_sipush_m1200 rfl ?_
  refine x_istore 10 C dX11_laysRing_8 [(4, .int (-1200 : Int32)), (0, .ref (h 0)), (1, .int v1), (2, .int v2), (3, .int v3)] hl rfl rfl rfl (fun ls hl => ?_)
  exact w_X11_laysRing_10 h C N x m_taped m_states m_ra m_rb m_threes m_primes m_ones m_unit m_allParts m_allNorms m_allClasses m_odd m_boxWide m_boxHigh m_boxStep m_partingMany m_qa m_qb m_la m_lb m_sa m_sb m_ta m_tb m_listed m_tells m_wanted m_found m_bits m_power2 m_seedNow m_tape m_has m_keptHas m_first m_second m_keptFirst m_keptSecond m_pa m_pb m_pNorm m_cubed m_isOpen m_signs m_often m_la0 m_lb0 R  N (0 : Int32) m_ringA m_ringB v1 v2 v3 (-1200 : Int32) _ _ _ X (lv_sub hl [1, 2, 3, 4, 0] rfl) hf
set_option maxHeartbeats 4000000 in
set_option maxRecDepth 100000 in
theorem c_X11_ring (l : Launch) (D : va_G) (T : KT) (h : Nat → Nat) (N : Nat) (v1 v2 : Int32) (m_taped m_states : Int32) (m_ra m_rb : Int64) (m_threes m_primes m_ones m_unit : Int32) (m_allParts m_allNorms m_allClasses : Int64) (m_odd : Int32) (m_boxWide m_boxHigh m_boxStep : Int64) (m_partingMany : Int32) (m_qa m_qb m_la m_lb m_sa m_sb m_ta m_tb : Int64) (m_listed m_tells m_wanted m_found : Int32) (m_bits : Int64) (m_power2 m_rings m_ringA m_ringB m_seedNow : Int32) (m_tape m_has m_keptHas m_first m_second m_keptFirst m_keptSecond m_pa m_pb m_pNorm m_cubed m_isOpen m_signs m_often m_la0 m_lb0 : Nat → Int32) (x : Int32 × Int32 × Int32 × Int32) (hf : f_X11_ring N v1 v2 m_rings m_ringA m_ringB = some x) : kx_MI l yX11_ring cX11_ring 3 (some .int) 4 98 D T [.ref (h 0), .int v1, .int v2] (wM T h m_taped m_states m_ra m_rb m_threes m_primes m_ones m_unit m_allParts m_allNorms m_allClasses m_odd m_boxWide m_boxHigh m_boxStep m_partingMany m_qa m_qb m_la m_lb m_sa m_sb m_ta m_tb m_listed m_tells m_wanted m_found m_bits m_power2 m_rings m_ringA m_ringB m_seedNow m_tape m_has m_keptHas m_first m_second m_keptFirst m_keptSecond m_pa m_pb m_pNorm m_cubed m_isOpen m_signs m_often m_la0 m_lb0) (wM T h m_taped m_states m_ra m_rb m_threes m_primes m_ones m_unit m_allParts m_allNorms m_allClasses m_odd m_boxWide m_boxHigh m_boxStep m_partingMany m_qa m_qb m_la m_lb m_sa m_sb m_ta m_tb m_listed m_tells m_wanted m_found m_bits m_power2 x.2.1 x.2.2.1 x.2.2.2 m_seedNow m_tape m_has m_keptHas m_first m_second m_keptFirst m_keptSecond m_pa m_pb m_pNorm m_cubed m_isOpen m_signs m_often m_la0 m_lb0) x.1 := by
  refine kx_ofMI RX11 rfl (plainFor_of_name (x := yX11_ring) kpn_X11) rfl ?_
  intro E A H ls _ C X R hl
  have hl : lv_has ls 3 [(0, .ref (h 0)), (1, .int v1), (2, .int v2)] := hl
  rw [f_X11_ring] at hf
  refine x_iload_n 1 C dX11_ring_0 hl 1 rfl rfl ?_
  refine x_i2l 2 C dX11_ring_1 rfl ?_
  refine x_lconst 3 C dX11_ring_2 (0 : Int64) kv_lconst_0 rfl ?_
  refine x_ldc2_w 6 C dX11_ring_3 (1000000 : Int64) kc_X11_441 rfl ?_
  obtain ⟨y6, hy6, hf⟩ := kx_bind hf
  refine x_callSi 9 C dX11_ring_6 X hl kl_X11_77 (c_X11_in E.2.1 D T  (v1).toInt64 (0 : Int64) (1000000 : Int64)  y6 hy6) [] rfl rfl rfl rfl rfl cb_7 rfl (fun H locs X => ?_)
  refine x_if_eq 24 12 C dX11_ring_9 rfl rfl hf (fun hf => ?_) (fun hf => ?_)
  · refine x_iconst 25 C dX11_ring_24 (-1 : Int32) kv_iconst_m1 rfl ?_
    obtain rfl := Option.some.inj hf
    exact R _ _ _ _ X dX11_ring_25
  refine x_iload_n 13 C dX11_ring_12 hl 2 rfl rfl ?_
  refine x_i2l 14 C dX11_ring_13 rfl ?_
  refine x_lconst 15 C dX11_ring_14 (0 : Int64) kv_lconst_0 rfl ?_
  refine x_ldc2_w 18 C dX11_ring_15 (2 : Int64) kc_X11_119 rfl ?_
  obtain ⟨y18, hy18, hf⟩ := kx_bind hf
  refine x_callSi 21 C dX11_ring_18 X hl kl_X11_77 (c_X11_in E.2.1 D T  (v2).toInt64 (0 : Int64) (2 : Int64)  y18 hy18) [] rfl rfl rfl rfl rfl cb_7 rfl (fun H locs X => ?_)
  refine x_if_ne 26 24 C dX11_ring_21 rfl rfl hf (fun hf => ?_) (fun hf => ?_)
  · refine x_aload_n 27 C dX11_ring_26 hl 0 rfl rfl ?_
    refine x_iload_n 28 C dX11_ring_27 hl 1 rfl rfl ?_
    refine x_iconst 29 C dX11_ring_28 (-1 : Int32) kv_iconst_m1 rfl ?_
    refine x_iload_n 30 C dX11_ring_29 hl 2 rfl rfl ?_
    obtain ⟨y30, hy30, hf⟩ := kx_bind hf
    refine x_callVv0 33 C dX11_ring_30 X hl kl_X11_443 (c_X11_laysRing E.2.1 D T h N v1 (-1 : Int32) v2 m_taped m_states m_ra m_rb m_threes m_primes m_ones m_unit m_allParts m_allNorms m_allClasses m_odd m_boxWide m_boxHigh m_boxStep m_partingMany m_qa m_qb m_la m_lb m_sa m_sb m_ta m_tb m_listed m_tells m_wanted m_found m_bits m_power2 m_rings m_ringA m_ringB m_seedNow m_tape m_has m_keptHas m_first m_second m_keptFirst m_keptSecond m_pa m_pb m_pNorm m_cubed m_isOpen m_signs m_often m_la0 m_lb0 y30 hy30) rfl rfl [] rfl rfl rfl rfl rfl rfl (fun H locs X => ?_)
    refine x_aload_n 34 C dX11_ring_33 hl 0 rfl rfl ?_
    refine x_get 37 C dX11_ring_34 X kf_X11_432 0 rfl rfl rfl ?_
    obtain rfl := Option.some.inj hf
    exact R _ _ _ _ X dX11_ring_37
  refine x_iconst 25 C dX11_ring_24 (-1 : Int32) kv_iconst_m1 rfl ?_
  obtain rfl := Option.some.inj hf
  exact R _ _ _ _ X dX11_ring_25
set_option maxHeartbeats 4000000 in
set_option maxRecDepth 100000 in
theorem c_J9_max_7cf53 (l : Launch) (D : va_G) (T : KT)  (v0 v1 : Int32)  (x : Int32) (hf : f_J9_max_7cf53 v0 v1 = some x) : kx_MI l yJ9_max_7cf53 cJ9_max_7cf53 2 (some .int) 0 0 D T [.int v0, .int v1] (w4_ T  ) (w4_ T  ) x := by
  refine kx_ofMI RJ9 rfl (by decide +kernel) rfl ?_
  intro E A H ls _ C X R hl
  have hl : lv_has ls 2 [(0, .int v0), (1, .int v1)] := hl
  rw [f_J9_max_7cf53] at hf
  refine x_iload_n 1 C dJ9_max_7cf53_0 hl 0 rfl rfl ?_
  refine x_iload_n 2 C dJ9_max_7cf53_1 hl 1 rfl rfl ?_
  refine x_icmp_lt 9 5 C dJ9_max_7cf53_2 rfl rfl hf (fun hf => ?_) (fun hf => ?_)
  · refine x_iload_n 10 C dJ9_max_7cf53_9 hl 1 rfl rfl ?_
    obtain rfl := Option.some.inj hf
    exact R _ _ _ _ X dJ9_max_7cf53_10
  refine x_iload_n 6 C dJ9_max_7cf53_5 hl 0 rfl rfl ?_
  refine x_goto 10 C dJ9_max_7cf53_6 rfl ?_
  obtain rfl := Option.some.inj hf
  exact R _ _ _ _ X dJ9_max_7cf53_10
set_option maxHeartbeats 4000000 in
set_option maxRecDepth 100000 in
theorem w_X7_fillDisk_64 {E : KE} {A : Nat → Prop} {D : va_G} {T : KT} (h0 : Nat) (C : kx_C E cX7_fillDisk 6 none RX7 1 23 D T) (N : Nat) (x : Int32 × Int32) (m_foundA m_foundB : Int32) (R : kx_RV E cX7_fillDisk D A (w49_X7 T h0 m_foundA m_foundB x.1 x.2)) (k26 : Int32 → Int32 → Int32 → Int32 → Int32 → Int32 → Option (Int32 × Int32)) (hk26 : ∀ (m_all m_mostOfOneRow : Int32) (v1 v2 v3 v4 : Int32) (H : Heap) (locs : List Loc) (ls : Array Slot), kx_H E D A H locs (w49_X7 T h0 m_foundA m_foundB m_all m_mostOfOneRow) → lv_has ls 6 [(0, .ref h0), (1, .int v1), (2, .int v2), (3, .int v3), (4, .int v4)] → k26 v1 v2 v3 v4 m_all m_mostOfOneRow = some x → kx_W E H locs 26 ls []) : ∀ (m_all m_mostOfOneRow : Int32) (v1 v2 v3 v4 s0 : Int32) (H : Heap) (locs : List Loc) (ls : Array Slot), kx_H E D A H locs (w49_X7 T h0 m_foundA m_foundB m_all m_mostOfOneRow) → lv_has ls 6 [(0, .ref h0), (1, .int v1), (2, .int v2), (3, .int v3), (4, .int v4)] → f_X7_fillDisk_64 N k26 v1 v2 v3 v4 s0 m_all m_mostOfOneRow = some x → kx_W E H locs 64 ls [.int s0] := by
  intro m_all m_mostOfOneRow v1 v2 v3 v4 s0 H locs ls X hl hf
  rw [f_X7_fillDisk_64] at hf
  refine x_istore 66 C dX7_fillDisk_64 [(5, .int s0), (0, .ref h0), (1, .int v1), (2, .int v2), (3, .int v3), (4, .int v4)] hl rfl rfl rfl (fun ls hl => ?_)
  refine x_aload_n 67 C dX7_fillDisk_66 hl 1 rfl rfl ?_
  refine x_dup 68 C dX7_fillDisk_67 rfl rfl ?_
  refine x_get 71 C dX7_fillDisk_68 X kf_X7_31 0 rfl rfl rfl ?_
  refine x_iload 73 C dX7_fillDisk_71 hl 0 rfl rfl ?_
  refine x_iadd 74 C dX7_fillDisk_73 rfl ?_
  refine x_put 77 C dX7_fillDisk_74 X kp_X7_31 0 rfl rfl rfl rfl (w49_X7 T h0 m_foundA m_foundB (m_all + s0) m_mostOfOneRow) rfl rfl (fun H locs X => ?_)
  refine x_aload_n 78 C dX7_fillDisk_77 hl 1 rfl rfl ?_
  refine x_aload_n 79 C dX7_fillDisk_78 hl 1 rfl rfl ?_
  refine x_get 82 C dX7_fillDisk_79 X kf_X7_34 0 rfl rfl rfl ?_
  refine x_iload 84 C dX7_fillDisk_82 hl 0 rfl rfl ?_
  obtain ⟨y84, hy84, hf⟩ := kx_bind hf
  refine x_callSi 87 C dX7_fillDisk_84 X hl kl_X7_37 (c_J9_max_7cf53 E.2.1 D T  m_mostOfOneRow s0  y84 hy84) [.ref h0] rfl rfl rfl rfl rfl cb_139 rfl (fun H locs X => ?_)
  refine x_put 90 C dX7_fillDisk_87 X kp_X7_34 0 rfl rfl rfl rfl (w49_X7 T h0 m_foundA m_foundB (m_all + s0) y84) rfl rfl (fun H locs X => ?_)
  refine x_iinc 93 C dX7_fillDisk_90 (1 : Int32) kv_iconst_1 [(4, .int (v4 + (1 : Int32))), (5, .int s0), (0, .ref h0), (1, .int v1), (2, .int v2), (3, .int v3)] hl 5 rfl rfl rfl rfl (fun ls hl => ?_)
  refine x_goto 26 C dX7_fillDisk_93 rfl ?_
  exact hk26 (m_all + s0) y84 v1 v2 v3 (v4 + (1 : Int32)) _ _ _ X (lv_sub hl [2, 3, 4, 5, 0] rfl) hf
set_option maxHeartbeats 4000000 in
set_option maxRecDepth 100000 in
theorem w_X7_fillDisk_26 {E : KE} {A : Nat → Prop} {D : va_G} {T : KT} (h0 : Nat) (C : kx_C E cX7_fillDisk 6 none RX7 1 23 D T) (N : Nat) (x : Int32 × Int32) (m_foundA m_foundB : Int32) (R : kx_RV E cX7_fillDisk D A (w49_X7 T h0 m_foundA m_foundB x.1 x.2)) : ∀ (k : Nat), ∀ (m_all m_mostOfOneRow : Int32) (v1 v2 v3 v4 : Int32) (H : Heap) (locs : List Loc) (ls : Array Slot), kx_H E D A H locs (w49_X7 T h0 m_foundA m_foundB m_all m_mostOfOneRow) → lv_has ls 6 [(0, .ref h0), (1, .int v1), (2, .int v2), (3, .int v3), (4, .int v4)] → f_X7_fillDisk_26 N k v1 v2 v3 v4 m_all m_mostOfOneRow = some x → kx_W E H locs 26 ls [] := by
  intro k
  induction k with
  | zero =>
    intro m_all m_mostOfOneRow v1 v2 v3 v4 H locs ls X hl hf
    cases (show (none : Option (Int32 × Int32)) = some x from hf)
  | succ k ih =>
    intro m_all m_mostOfOneRow v1 v2 v3 v4 H locs ls X hl hf
    rw [f_X7_fillDisk_26] at hf
    refine x_iload 28 C dX7_fillDisk_26 hl 4 rfl rfl ?_
    refine x_iload_n 29 C dX7_fillDisk_28 hl 2 rfl rfl ?_
    refine x_icmp_gt 96 32 C dX7_fillDisk_29 rfl rfl hf (fun hf => ?_) (fun hf => ?_)
    · obtain rfl := Option.some.inj hf
      exact R _ _ _ _ X dX7_fillDisk_96
    refine x_iconst 33 C dX7_fillDisk_32 (4 : Int32) kv_iconst_4 rfl ?_
    refine x_iload_n 34 C dX7_fillDisk_33 hl 1 rfl rfl ?_
    refine x_imul 35 C dX7_fillDisk_34 rfl ?_
    refine x_iconst 36 C dX7_fillDisk_35 (3 : Int32) kv_iconst_3 rfl ?_
    refine x_iload 38 C dX7_fillDisk_36 hl 4 rfl rfl ?_
    refine x_imul 39 C dX7_fillDisk_38 rfl ?_
    refine x_iload 41 C dX7_fillDisk_39 hl 4 rfl rfl ?_
    refine x_imul 42 C dX7_fillDisk_41 rfl ?_
    refine x_isub 43 C dX7_fillDisk_42 rfl ?_
    refine x_iload_n 44 C dX7_fillDisk_43 hl 3 rfl rfl ?_
    obtain ⟨y44, hy44, hf⟩ := kx_bind hf
    refine x_callSi 47 C dX7_fillDisk_44 X hl kl_X7_7 (c_X9_rootFrom E.2.1 D T  N (((4 : Int32) * v1) - (((3 : Int32) * v4) * v4)) v3  y44 hy44) [] rfl rfl rfl rfl rfl cb_139 rfl (fun H locs X => ?_)
    refine x_istore_n 48 C dX7_fillDisk_47 [(3, .int y44), (0, .ref h0), (1, .int v1), (2, .int v2), (4, .int v4)] hl rfl rfl rfl (fun ls hl => ?_)
    refine x_iload_n 49 C dX7_fillDisk_48 hl 0 rfl rfl ?_
    refine x_iload 51 C dX7_fillDisk_49 hl 4 rfl rfl ?_
    refine x_iadd 52 C dX7_fillDisk_51 rfl ?_
    refine x_iconst 53 C dX7_fillDisk_52 (2 : Int32) kv_iconst_2 rfl ?_
    refine x_irem0 54 C dX7_fillDisk_53 kz_i_2 rfl ?_
    refine x_if_ne 63 57 C dX7_fillDisk_54 rfl rfl hf (fun hf => ?_) (fun hf => ?_)
    · refine x_iload_n 64 C dX7_fillDisk_63 hl 0 rfl rfl ?_
      exact w_X7_fillDisk_64 h0 C N x m_foundA m_foundB R (f_X7_fillDisk_26 N k) ih m_all m_mostOfOneRow v1 v2 y44 v4 y44 _ _ _ X (lv_sub hl [1, 2, 3, 0, 4] rfl) hf
    refine x_iload_n 58 C dX7_fillDisk_57 hl 0 rfl rfl ?_
    refine x_iconst 59 C dX7_fillDisk_58 (1 : Int32) kv_iconst_1 rfl ?_
    refine x_iadd 60 C dX7_fillDisk_59 rfl ?_
    refine x_goto 64 C dX7_fillDisk_60 rfl ?_
    exact w_X7_fillDisk_64 h0 C N x m_foundA m_foundB R (f_X7_fillDisk_26 N k) ih m_all m_mostOfOneRow v1 v2 y44 v4 (y44 + (1 : Int32)) _ _ _ X (lv_sub hl [1, 2, 3, 0, 4] rfl) hf
set_option maxHeartbeats 4000000 in
set_option maxRecDepth 100000 in
theorem c_X7_fillDisk (l : Launch) (D : va_G) (T : KT) (h0 : Nat) (N : Nat) (v1 : Int32) (m_foundA m_foundB m_all m_mostOfOneRow : Int32) (x : Int32 × Int32) (hf : f_X7_fillDisk N v1 = some x) : kx_MV l yX7_fillDisk cX7_fillDisk 6 none 1 23 D T [.ref h0, .int v1] (w49_X7 T h0 m_foundA m_foundB m_all m_mostOfOneRow) (w49_X7 T h0 m_foundA m_foundB x.1 x.2) := by
  refine kx_ofMV RX7 rfl (plainFor_of_name (x := yX7_fillDisk) kpn_X7) rfl ?_
  intro E A H ls _ C X R hl
  have hl : lv_has ls 6 [(0, .ref h0), (1, .int v1)] := hl
  rw [f_X7_fillDisk] at hf
  refine x_aload_n 1 C dX7_fillDisk_0 hl 0 rfl rfl ?_
  refine x_iconst 2 C dX7_fillDisk_1 (0 : Int32) kv_iconst_0 rfl ?_
  refine x_put 5 C dX7_fillDisk_2 X kp_X7_31 0 rfl rfl rfl rfl (w49_X7 T h0 m_foundA m_foundB (0 : Int32) m_mostOfOneRow) rfl rfl (fun H locs X => ?_)
  refine x_aload_n 6 C dX7_fillDisk_5 hl 0 rfl rfl ?_
  refine x_iconst 7 C dX7_fillDisk_6 (0 : Int32) kv_iconst_0 rfl ?_
  refine x_put 10 C dX7_fillDisk_7 X kp_X7_34 0 rfl rfl rfl rfl (w49_X7 T h0 m_foundA m_foundB (0 : Int32) (0 : Int32)) rfl rfl (fun H locs X => ?_)
  refine x_iconst 11 C dX7_fillDisk_10 (4 : Int32) kv_iconst_4 rfl ?_
  refine x_iload_n 12 C dX7_fillDisk_11 hl 1 rfl rfl ?_
  refine x_imul 13 C dX7_fillDisk_12 rfl ?_
  refine x_iconst 14 C dX7_fillDisk_13 (3 : Int32) kv_iconst_3 rfl ?_
  refine x_idiv0 15 C dX7_fillDisk_14 kz_i_3 rfl ?_
  refine x_iconst 16 C dX7_fillDisk_15 (0 : Int32) kv_iconst_0 rfl ?_
  obtain ⟨y16, hy16, hf⟩ := kx_bind hf
  refine x_callSi 19 C dX7_fillDisk_16 X hl kl_X7_7 (c_X9_rootFrom E.2.1 D T  N (((4 : Int32) * v1) / (3 : Int32)) (0 : Int32)  y16 hy16) [] rfl rfl rfl rfl rfl cb_139 rfl (fun H locs X => ?_)
  refine x_istore_n 20 C dX7_fillDisk_19 [(2, .int y16), (0, .ref h0), (1, .int v1)] hl rfl rfl rfl (fun ls hl => ?_)
  refine x_iconst 21 C dX7_fillDisk_20 (0 : Int32) kv_iconst_0 rfl ?_
  refine x_istore_n 22 C dX7_fillDisk_21 [(3, .int (0 : Int32)), (2, .int y16), (0, .ref h0), (1, .int v1)] hl rfl rfl rfl (fun ls hl => ?_)
  refine x_iload_n 23 C dX7_fillDisk_22 hl 1 rfl rfl ?_
  refine x_ineg 24 C dX7_fillDisk_23 rfl ?_
  refine x_istore 26 C dX7_fillDisk_24 [(4, .int (-y16)), (3, .int (0 : Int32)), (2, .int y16), (0, .ref h0), (1, .int v1)] hl rfl rfl rfl (fun ls hl => ?_)
  exact w_X7_fillDisk_26 h0 C N x m_foundA m_foundB R  N (0 : Int32) (0 : Int32) v1 y16 (0 : Int32) (-y16) _ _ _ X (lv_sub hl [3, 4, 2, 1, 0] rfl) hf
