set_option maxHeartbeats 4000000 in
set_option maxRecDepth 100000 in
theorem w_X11_classes_123 {E : KE} {A : Nat → Prop} {D : va_G} {T : KT} (h : Nat → Nat) (C : kx_C E cX11_classes 5 (some .int) RX11 7 199 D T) (N : Nat) (x : Int32 × Int64 × Int64 × Int64 × Int64 × Int64 × (Nat → Int32) × (Nat → Int32)) (m_taped m_states m_threes m_primes m_ones m_unit : Int32) (m_allParts m_allNorms m_allClasses : Int64) (m_odd m_partingMany : Int32) (m_qa m_qb m_la m_lb m_sa m_sb m_ta m_tb : Int64) (m_listed m_tells m_wanted m_found : Int32) (m_bits : Int64) (m_power2 m_rings m_ringA m_ringB m_seedNow : Int32) (m_tape m_has m_keptHas m_first m_second m_keptFirst m_keptSecond m_pa m_pb m_pNorm m_signs m_often m_la0 m_lb0 : Nat → Int32) (R : kx_RI E cX11_classes D A (wM T h m_taped m_states x.2.1 x.2.2.1 m_threes m_primes m_ones m_unit m_allParts m_allNorms m_allClasses m_odd x.2.2.2.1 x.2.2.2.2.1 x.2.2.2.2.2.1 m_partingMany m_qa m_qb m_la m_lb m_sa m_sb m_ta m_tb m_listed m_tells m_wanted m_found m_bits m_power2 m_rings m_ringA m_ringB m_seedNow m_tape m_has m_keptHas m_first m_second m_keptFirst m_keptSecond m_pa m_pb m_pNorm x.2.2.2.2.2.2.1 x.2.2.2.2.2.2.2 m_signs m_often m_la0 m_lb0) x.1) : ∀ (k : Nat), ∀ (m_ra m_rb m_boxWide m_boxHigh m_boxStep : Int64) (m_cubed m_isOpen : Nat → Int32) (v2 v3 v4 : Int32) (H : Heap) (locs : List Loc) (ls : Array Slot), kx_H E D A H locs (wM T h m_taped m_states m_ra m_rb m_threes m_primes m_ones m_unit m_allParts m_allNorms m_allClasses m_odd m_boxWide m_boxHigh m_boxStep m_partingMany m_qa m_qb m_la m_lb m_sa m_sb m_ta m_tb m_listed m_tells m_wanted m_found m_bits m_power2 m_rings m_ringA m_ringB m_seedNow m_tape m_has m_keptHas m_first m_second m_keptFirst m_keptSecond m_pa m_pb m_pNorm m_cubed m_isOpen m_signs m_often m_la0 m_lb0) → lv_has ls 5 [(0, .ref (h 0)), (2, .int v2), (3, .int v3), (4, .int v4)] → f_X11_classes_123 N k v2 v3 v4 m_ra m_rb m_boxWide m_boxHigh m_boxStep m_cubed m_isOpen = some x → kx_W E H locs 123 ls [] := by
  intro k
  induction k with
  | zero =>
    intro m_ra m_rb m_boxWide m_boxHigh m_boxStep m_cubed m_isOpen v2 v3 v4 H locs ls X hl hf
    cases (show (none : Option (Int32 × Int64 × Int64 × Int64 × Int64 × Int64 × (Nat → Int32) × (Nat → Int32))) = some x from hf)
  | succ k ih =>
    intro m_ra m_rb m_boxWide m_boxHigh m_boxStep m_cubed m_isOpen v2 v3 v4 H locs ls X hl hf
    rw [f_X11_classes_123] at hf
    refine x_iload 125 C dX11_classes_123 hl 3 rfl rfl ?_
    refine x_aload_n 126 C dX11_classes_125 hl 0 rfl rfl ?_
    obtain ⟨y126, hy126, hf⟩ := kx_bind hf
    refine x_callVi0 129 C dX11_classes_126 X hl kl_X11_321 (c_X11_classesNow E.2.1 D T h  m_taped m_states m_ra m_rb m_threes m_primes m_ones m_unit m_allParts m_allNorms m_allClasses m_odd m_boxWide m_boxHigh m_boxStep m_partingMany m_qa m_qb m_la m_lb m_sa m_sb m_ta m_tb m_listed m_tells m_wanted m_found m_bits m_power2 m_rings m_ringA m_ringB m_seedNow m_tape m_has m_keptHas m_first m_second m_keptFirst m_keptSecond m_pa m_pb m_pNorm m_cubed m_isOpen m_signs m_often m_la0 m_lb0 y126 hy126) rfl rfl [.int v4] rfl rfl rfl rfl rfl rfl (fun H locs X => ?_)
    refine x_icmp_ge 171 132 C dX11_classes_129 rfl rfl hf (fun hf => ?_) (fun hf => ?_)
    · refine x_iload_n 172 C dX11_classes_171 hl 2 rfl rfl ?_
      obtain rfl := Option.some.inj hf
      exact R _ _ _ _ X dX11_classes_172
    refine x_iload_n 133 C dX11_classes_132 hl 2 rfl rfl ?_
    refine x_aload_n 134 C dX11_classes_133 hl 0 rfl rfl ?_
    refine x_get 137 C dX11_classes_134 X kf_X11_45 0 rfl rfl rfl ?_
    refine x_iload 139 C dX11_classes_137 hl 3 rfl rfl ?_
    refine x_zald 140 C dX11_classes_139 X 12 rfl hf rfl (fun hf => ?_)
    refine x_if_eq 162 143 C dX11_classes_140 rfl rfl hf (fun hf => ?_) (fun hf => ?_)
    · refine x_iconst 163 C dX11_classes_162 (0 : Int32) kv_iconst_0 rfl ?_
      refine x_iadd 164 C dX11_classes_163 rfl ?_
      refine x_istore_n 165 C dX11_classes_164 [(3, .int (v3 + (0 : Int32))), (0, .ref (h 0)), (2, .int v2), (4, .int v4)] hl rfl rfl rfl (fun ls hl => ?_)
      refine x_iinc 168 C dX11_classes_165 (1 : Int32) kv_iconst_1 [(4, .int (v4 + (1 : Int32))), (3, .int (v3 + (0 : Int32))), (0, .ref (h 0)), (2, .int v2)] hl 3 rfl rfl rfl rfl (fun ls hl => ?_)
      refine x_goto 123 C dX11_classes_168 rfl ?_
      exact ih m_ra m_rb m_boxWide m_boxHigh m_boxStep m_cubed m_isOpen v2 (v3 + (0 : Int32)) (v4 + (1 : Int32)) _ _ _ X (lv_sub hl [2, 3, 1, 0] rfl) hf
    refine x_iload_n 144 C dX11_classes_143 hl 1 rfl rfl ?_
    refine x_iconst 145 C dX11_classes_144 (1 : Int32) kv_iconst_1 rfl ?_
    refine x_icmp_eq 158 148 C dX11_classes_145 rfl rfl hf (fun hf => ?_) (fun hf => ?_)
    · refine x_iconst 159 C dX11_classes_158 (1 : Int32) kv_iconst_1 rfl ?_
      refine x_goto 163 C dX11_classes_159 rfl ?_
      refine x_iadd 164 C dX11_classes_163 rfl ?_
      refine x_istore_n 165 C dX11_classes_164 [(3, .int (v3 + (1 : Int32))), (0, .ref (h 0)), (2, .int v2), (4, .int v4)] hl rfl rfl rfl (fun ls hl => ?_)
      refine x_iinc 168 C dX11_classes_165 (1 : Int32) kv_iconst_1 [(4, .int (v4 + (1 : Int32))), (3, .int (v3 + (1 : Int32))), (0, .ref (h 0)), (2, .int v2)] hl 3 rfl rfl rfl rfl (fun ls hl => ?_)
      refine x_goto 123 C dX11_classes_168 rfl ?_
      exact ih m_ra m_rb m_boxWide m_boxHigh m_boxStep m_cubed m_isOpen v2 (v3 + (1 : Int32)) (v4 + (1 : Int32)) _ _ _ X (lv_sub hl [2, 3, 1, 0] rfl) hf
    refine x_aload_n 149 C dX11_classes_148 hl 0 rfl rfl ?_
    refine x_get 152 C dX11_classes_149 X kf_X11_42 0 rfl rfl rfl ?_
    refine x_iload 154 C dX11_classes_152 hl 3 rfl rfl ?_
    refine x_iald 155 C dX11_classes_154 X 11 rfl hf rfl (fun hf => ?_)
    refine x_if_le 162 158 C dX11_classes_155 rfl rfl hf (fun hf => ?_) (fun hf => ?_)
    · refine x_iconst 163 C dX11_classes_162 (0 : Int32) kv_iconst_0 rfl ?_
      refine x_iadd 164 C dX11_classes_163 rfl ?_
      refine x_istore_n 165 C dX11_classes_164 [(3, .int (v3 + (0 : Int32))), (0, .ref (h 0)), (2, .int v2), (4, .int v4)] hl rfl rfl rfl (fun ls hl => ?_)
      refine x_iinc 168 C dX11_classes_165 (1 : Int32) kv_iconst_1 [(4, .int (v4 + (1 : Int32))), (3, .int (v3 + (0 : Int32))), (0, .ref (h 0)), (2, .int v2)] hl 3 rfl rfl rfl rfl (fun ls hl => ?_)
      refine x_goto 123 C dX11_classes_168 rfl ?_
      exact ih m_ra m_rb m_boxWide m_boxHigh m_boxStep m_cubed m_isOpen v2 (v3 + (0 : Int32)) (v4 + (1 : Int32)) _ _ _ X (lv_sub hl [2, 3, 1, 0] rfl) hf
    refine x_iconst 159 C dX11_classes_158 (1 : Int32) kv_iconst_1 rfl ?_
    refine x_goto 163 C dX11_classes_159 rfl ?_
    refine x_iadd 164 C dX11_classes_163 rfl ?_
    refine x_istore_n 165 C dX11_classes_164 [(3, .int (v3 + (1 : Int32))), (0, .ref (h 0)), (2, .int v2), (4, .int v4)] hl rfl rfl rfl (fun ls hl => ?_)
    refine x_iinc 168 C dX11_classes_165 (1 : Int32) kv_iconst_1 [(4, .int (v4 + (1 : Int32))), (3, .int (v3 + (1 : Int32))), (0, .ref (h 0)), (2, .int v2)] hl 3 rfl rfl rfl rfl (fun ls hl => ?_)
    refine x_goto 123 C dX11_classes_168 rfl ?_
    exact ih m_ra m_rb m_boxWide m_boxHigh m_boxStep m_cubed m_isOpen v2 (v3 + (1 : Int32)) (v4 + (1 : Int32)) _ _ _ X (lv_sub hl [2, 3, 1, 0] rfl) hf
set_option maxHeartbeats 4000000 in
set_option maxRecDepth 100000 in
theorem c_X11_classes (l : Launch) (D : va_G) (T : KT) (h : Nat → Nat) (N : Nat) (v1 v2 : Int32) (m_taped m_states : Int32) (m_ra m_rb : Int64) (m_threes m_primes m_ones m_unit : Int32) (m_allParts m_allNorms m_allClasses : Int64) (m_odd : Int32) (m_boxWide m_boxHigh m_boxStep : Int64) (m_partingMany : Int32) (m_qa m_qb m_la m_lb m_sa m_sb m_ta m_tb : Int64) (m_listed m_tells m_wanted m_found : Int32) (m_bits : Int64) (m_power2 m_rings m_ringA m_ringB m_seedNow : Int32) (m_tape m_has m_keptHas m_first m_second m_keptFirst m_keptSecond m_pa m_pb m_pNorm m_cubed m_isOpen m_signs m_often m_la0 m_lb0 : Nat → Int32) (x : Int32 × Int64 × Int64 × Int64 × Int64 × Int64 × (Nat → Int32) × (Nat → Int32)) (hf : f_X11_classes N v1 v2 m_ra m_rb m_boxWide m_boxHigh m_boxStep m_has m_first m_second m_cubed m_isOpen = some x) : kx_MI l yX11_classes cX11_classes 5 (some .int) 7 199 D T [.ref (h 0), .int v1, .int v2] (wM T h m_taped m_states m_ra m_rb m_threes m_primes m_ones m_unit m_allParts m_allNorms m_allClasses m_odd m_boxWide m_boxHigh m_boxStep m_partingMany m_qa m_qb m_la m_lb m_sa m_sb m_ta m_tb m_listed m_tells m_wanted m_found m_bits m_power2 m_rings m_ringA m_ringB m_seedNow m_tape m_has m_keptHas m_first m_second m_keptFirst m_keptSecond m_pa m_pb m_pNorm m_cubed m_isOpen m_signs m_often m_la0 m_lb0) (wM T h m_taped m_states x.2.1 x.2.2.1 m_threes m_primes m_ones m_unit m_allParts m_allNorms m_allClasses m_odd x.2.2.2.1 x.2.2.2.2.1 x.2.2.2.2.2.1 m_partingMany m_qa m_qb m_la m_lb m_sa m_sb m_ta m_tb m_listed m_tells m_wanted m_found m_bits m_power2 m_rings m_ringA m_ringB m_seedNow m_tape m_has m_keptHas m_first m_second m_keptFirst m_keptSecond m_pa m_pb m_pNorm x.2.2.2.2.2.2.1 x.2.2.2.2.2.2.2 m_signs m_often m_la0 m_lb0) x.1 := by
  refine kx_ofMI RX11 rfl (plainFor_of_name (x := yX11_classes) kpn_X11) rfl ?_
  intro E A H ls _ C X R hl
  have hl : lv_has ls 5 [(0, .ref (h 0)), (1, .int v1), (2, .int v2)] := hl
  rw [f_X11_classes] at hf
  refine x_iload_n 1 C dX11_classes_0 hl 1 rfl rfl ?_
  obtain ⟨y1, hy1, hf⟩ := kx_bind hf
  refine x_callSi 4 C dX11_classes_1 X hl kl_X11_85 (c_X11_isDrawer E.2.1 D T  v1  y1 hy1) [] rfl rfl rfl rfl rfl cb_7 rfl (fun H locs X => ?_)
  refine x_if_eq 19 7 C dX11_classes_4 rfl rfl hf (fun hf => ?_) (fun hf => ?_)
  · refine x_iconst 20 C dX11_classes_19 (-1 : Int32) kv_iconst_m1 rfl ?_
    obtain rfl := Option.some.inj hf
    exact R _ _ _ _ X dX11_classes_20
  refine x_iload_n 8 C dX11_classes_7 hl 2 rfl rfl ?_
  refine x_i2l 9 C dX11_classes_8 rfl ?_
  refine x_lconst 10 C dX11_classes_9 (0 : Int64) kv_lconst_0 rfl ?_
  refine x_ldc2_w 13 C dX11_classes_10 (2 : Int64) kc_X11_119 rfl ?_
  obtain ⟨y13, hy13, hf⟩ := kx_bind hf
  refine x_callSi 16 C dX11_classes_13 X hl kl_X11_77 (c_X11_in E.2.1 D T  (v2).toInt64 (0 : Int64) (2 : Int64)  y13 hy13) [] rfl rfl rfl rfl rfl cb_7 rfl (fun H locs X => ?_)
  refine x_if_ne 21 19 C dX11_classes_16 rfl rfl hf (fun hf => ?_) (fun hf => ?_)
  · refine x_aload_n 22 C dX11_classes_21 hl 0 rfl rfl ?_
    refine x_get 25 C dX11_classes_22 X kf_X11_13 0 rfl rfl rfl ?_
    refine x_iload_n 26 C dX11_classes_25 hl 1 rfl rfl ?_
    refine x_zald 27 C dX11_classes_26 X 2 rfl hf rfl (fun hf => ?_)
    refine x_if_ne 33 30 C dX11_classes_27 rfl rfl hf (fun hf => ?_) (fun hf => ?_)
    · refine x_iload_n 34 C dX11_classes_33 hl 2 rfl rfl ?_
      refine x_if_ne 68 37 C dX11_classes_34 rfl rfl hf (fun hf => ?_) (fun hf => ?_)
      · refine x_aload_n 69 C dX11_classes_68 hl 0 rfl rfl ?_
        refine x_iload_n 70 C dX11_classes_69 hl 1 rfl rfl ?_
        refine x_sipush 73 C dX11_classes_70 (2000 : Int32) kv_sipush_2000 rfl ?_
        obtain ⟨y73, hy73, hf⟩ := kx_bind hf
        refine x_callVi0 76 C dX11_classes_73 X hl kl_X11_331 (c_X11_isGreat E.2.1 D T h v1 (2000 : Int32) m_taped m_states m_ra m_rb m_threes m_primes m_ones m_unit m_allParts m_allNorms m_allClasses m_odd m_boxWide m_boxHigh m_boxStep m_partingMany m_qa m_qb m_la m_lb m_sa m_sb m_ta m_tb m_listed m_tells m_wanted m_found m_bits m_power2 m_rings m_ringA m_ringB m_seedNow m_tape m_has m_keptHas m_first m_second m_keptFirst m_keptSecond m_pa m_pb m_pNorm m_cubed m_isOpen m_signs m_often m_la0 m_lb0 y73 hy73) rfl rfl [] rfl rfl rfl rfl rfl rfl (fun H locs X => ?_)
        refine x_if_eq 82 79 C dX11_classes_76 rfl rfl hf (fun hf => ?_) (fun hf => ?_)
        · refine x_aload_n 83 C dX11_classes_82 hl 0 rfl rfl ?_
          refine x_aload_n 84 C dX11_classes_83 hl 0 rfl rfl ?_
          refine x_get 87 C dX11_classes_84 X kf_X11_20 0 rfl rfl rfl ?_
          refine x_iload_n 88 C dX11_classes_87 hl 1 rfl rfl ?_
          refine x_iald 89 C dX11_classes_88 X 4 rfl hf rfl (fun hf => ?_)
          refine x_i2l 90 C dX11_classes_89 rfl ?_
          refine x_aload_n 91 C dX11_classes_90 hl 0 rfl rfl ?_
          refine x_get 94 C dX11_classes_91 X kf_X11_24 0 rfl rfl rfl ?_
          refine x_iload_n 95 C dX11_classes_94 hl 1 rfl rfl ?_
          refine x_iald 96 C dX11_classes_95 X 5 rfl hf rfl (fun hf => ?_)
          refine x_i2l 97 C dX11_classes_96 rfl ?_
          obtain ⟨y97, hy97, hf⟩ := kx_bind hf
          refine x_callVv0 100 C dX11_classes_97 X hl kl_X11_334 (c_X11_laysCubes E.2.1 D T h N ((m_first (v1).toNatClampNeg)).toInt64 ((m_second (v1).toNatClampNeg)).toInt64 m_taped m_states m_ra m_rb m_threes m_primes m_ones m_unit m_allParts m_allNorms m_allClasses m_odd m_boxWide m_boxHigh m_boxStep m_partingMany m_qa m_qb m_la m_lb m_sa m_sb m_ta m_tb m_listed m_tells m_wanted m_found m_bits m_power2 m_rings m_ringA m_ringB m_seedNow m_tape m_has m_keptHas m_first m_second m_keptFirst m_keptSecond m_pa m_pb m_pNorm m_cubed m_isOpen m_signs m_often m_la0 m_lb0 y97 hy97) rfl rfl [] rfl rfl rfl rfl rfl rfl (fun H locs X => ?_)
          refine x_aload_n 101 C dX11_classes_100 hl 0 rfl rfl ?_
          refine x_aload_n 102 C dX11_classes_101 hl 0 rfl rfl ?_
          refine x_get 105 C dX11_classes_102 X kf_X11_20 0 rfl rfl rfl ?_
          refine x_iload_n 106 C dX11_classes_105 hl 1 rfl rfl ?_
          refine x_iald 107 C dX11_classes_106 X 4 rfl hf rfl (fun hf => ?_)
          refine x_i2l 108 C dX11_classes_107 rfl ?_
          refine x_aload_n 109 C dX11_classes_108 hl 0 rfl rfl ?_
          refine x_get 112 C dX11_classes_109 X kf_X11_24 0 rfl rfl rfl ?_
          refine x_iload_n 113 C dX11_classes_112 hl 1 rfl rfl ?_
          refine x_iald 114 C dX11_classes_113 X 5 rfl hf rfl (fun hf => ?_)
          refine x_i2l 115 C dX11_classes_114 rfl ?_
          obtain ⟨y115, hy115, hf⟩ := kx_bind hf
          refine x_callVv0 118 C dX11_classes_115 X hl kl_X11_337 (c_X11_laysOpen E.2.1 D T h N ((m_first (v1).toNatClampNeg)).toInt64 ((m_second (v1).toNatClampNeg)).toInt64 m_taped m_states y97.1 y97.2.1 m_threes m_primes m_ones m_unit m_allParts m_allNorms m_allClasses m_odd y97.2.2.1 y97.2.2.2.1 y97.2.2.2.2.1 m_partingMany m_qa m_qb m_la m_lb m_sa m_sb m_ta m_tb m_listed m_tells m_wanted m_found m_bits m_power2 m_rings m_ringA m_ringB m_seedNow m_tape m_has m_keptHas m_first m_second m_keptFirst m_keptSecond m_pa m_pb m_pNorm y97.2.2.2.2.2 m_isOpen m_signs m_often m_la0 m_lb0 y115 hy115) rfl rfl [] rfl rfl rfl rfl rfl rfl (fun H locs X => ?_)
          refine x_iconst 119 C dX11_classes_118 (0 : Int32) kv_iconst_0 rfl ?_
          refine x_istore_n 120 C dX11_classes_119 [(3, .int (0 : Int32)), (0, .ref (h 0)), (1, .int v1), (2, .int v2)] hl rfl rfl rfl (fun ls hl => ?_)
          refine x_iconst 121 C dX11_classes_120 (0 : Int32) kv_iconst_0 rfl ?_
          refine x_istore 123 C dX11_classes_121 [(4, .int (0 : Int32)), (3, .int (0 : Int32)), (0, .ref (h 0)), (1, .int v1), (2, .int v2)] hl rfl rfl rfl (fun ls hl => ?_)
          exact w_X11_classes_123 h C N x m_taped m_states m_threes m_primes m_ones m_unit m_allParts m_allNorms m_allClasses m_odd m_partingMany m_qa m_qb m_la m_lb m_sa m_sb m_ta m_tb m_listed m_tells m_wanted m_found m_bits m_power2 m_rings m_ringA m_ringB m_seedNow m_tape m_has m_keptHas m_first m_second m_keptFirst m_keptSecond m_pa m_pb m_pNorm m_signs m_often m_la0 m_lb0 R  N y115.1 y115.2.1 y97.2.2.1 y97.2.2.2.1 y97.2.2.2.2.1 y97.2.2.2.2.2 y115.2.2 v2 (0 : Int32) (0 : Int32) _ _ _ X (lv_sub hl [2, 4, 1, 0] rfl) hf
        refine x_bipush 81 C dX11_classes_79 (-3 : Int32) kv_bipush_m3 rfl ?_
        obtain rfl := Option.some.inj hf
        exact R _ _ _ _ X dX11_classes_81
      refine x_aload_n 38 C dX11_classes_37 hl 0 rfl rfl ?_
      refine x_iload_n 39 C dX11_classes_38 hl 1 rfl rfl ?_
      obtain ⟨y39, hy39, hf⟩ := kx_bind hf
      refine x_callVi0 42 C dX11_classes_39 X hl kl_X11_178 (c_X11_isNothing E.2.1 D T h v1 m_taped m_states m_ra m_rb m_threes m_primes m_ones m_unit m_allParts m_allNorms m_allClasses m_odd m_boxWide m_boxHigh m_boxStep m_partingMany m_qa m_qb m_la m_lb m_sa m_sb m_ta m_tb m_listed m_tells m_wanted m_found m_bits m_power2 m_rings m_ringA m_ringB m_seedNow m_tape m_has m_keptHas m_first m_second m_keptFirst m_keptSecond m_pa m_pb m_pNorm m_cubed m_isOpen m_signs m_often m_la0 m_lb0 y39 hy39) rfl rfl [] rfl rfl rfl rfl rfl rfl (fun H locs X => ?_)
      refine x_if_eq 50 45 C dX11_classes_42 rfl rfl hf (fun hf => ?_) (fun hf => ?_)
      · refine x_aload_n 51 C dX11_classes_50 hl 0 rfl rfl ?_
        refine x_get 54 C dX11_classes_51 X kf_X11_20 0 rfl rfl rfl ?_
        refine x_iload_n 55 C dX11_classes_54 hl 1 rfl rfl ?_
        refine x_iald 56 C dX11_classes_55 X 4 rfl hf rfl (fun hf => ?_)
        refine x_i2l 57 C dX11_classes_56 rfl ?_
        refine x_aload_n 58 C dX11_classes_57 hl 0 rfl rfl ?_
        refine x_get 61 C dX11_classes_58 X kf_X11_24 0 rfl rfl rfl ?_
        refine x_iload_n 62 C dX11_classes_61 hl 1 rfl rfl ?_
        refine x_iald 63 C dX11_classes_62 X 5 rfl hf rfl (fun hf => ?_)
        refine x_i2l 64 C dX11_classes_63 rfl ?_
        obtain ⟨y64, hy64, hf⟩ := kx_bind hf
        refine x_callSi 67 C dX11_classes_64 X hl kl_X11_160 (c_X11_normOf E.2.1 D T  ((m_first (v1).toNatClampNeg)).toInt64 ((m_second (v1).toNatClampNeg)).toInt64  y64 hy64) [] rfl rfl rfl rfl rfl cb_7 rfl (fun H locs X => ?_)
        obtain rfl := Option.some.inj hf
        exact R _ _ _ _ X dX11_classes_67
      refine x_bipush 47 C dX11_classes_45 (-3 : Int32) kv_bipush_m3 rfl ?_
      refine x_goto 67 C dX11_classes_47 rfl ?_
      obtain rfl := Option.some.inj hf
      exact R _ _ _ _ X dX11_classes_67
    refine x_bipush 32 C dX11_classes_30 (-2 : Int32) kv_bipush_m2 rfl ?_
    obtain rfl := Option.some.inj hf
    exact R _ _ _ _ X dX11_classes_32
  refine x_iconst 20 C dX11_classes_19 (-1 : Int32) kv_iconst_m1 rfl ?_
  obtain rfl := Option.some.inj hf
  exact R _ _ _ _ X dX11_classes_20
set_option maxHeartbeats 4000000 in
set_option maxRecDepth 100000 in
theorem c_X10_isPartOf (l : Launch) (D : va_G) (T : KT)  (v0 v1 : Int32)  (x : Int32) (hf : f_X10_isPartOf v0 v1 = some x) : kx_MI l yX10_isPartOf cX10_isPartOf 2 (some .boolean) 0 0 D T [.int v0, .int v1] (w4_ T  ) (w4_ T  ) x := by
  refine kx_ofMZ RX10 rfl (plainFor_of_name (x := yX10_isPartOf) kpn_X10) rfl ?_
  intro E A H ls _ C X R hl
  have hl : lv_has ls 2 [(0, .int v0), (1, .int v1)] := hl
  rw [f_X10_isPartOf] at hf
  refine x_iload_n 1 C dX10_isPartOf_0 hl 0 rfl rfl ?_
  refine x_iconst 2 C dX10_isPartOf_1 (-1 : Int32) kv_iconst_m1 rfl ?_
  refine x_icmp_eq 14 5 C dX10_isPartOf_2 rfl rfl hf (fun hf => ?_) (fun hf => ?_)
  · refine x_iconst 15 C dX10_isPartOf_14 (1 : Int32) kv_iconst_1 rfl ?_
    refine x_goto 19 C dX10_isPartOf_15 rfl ?_
    obtain rfl := Option.some.inj hf
    exact R _ _ _ _ X kb_1 dX10_isPartOf_19
  refine x_iload_n 6 C dX10_isPartOf_5 hl 1 rfl rfl ?_
  refine x_if_eq 14 9 C dX10_isPartOf_6 rfl rfl hf (fun hf => ?_) (fun hf => ?_)
  · refine x_iconst 15 C dX10_isPartOf_14 (1 : Int32) kv_iconst_1 rfl ?_
    refine x_goto 19 C dX10_isPartOf_15 rfl ?_
    obtain rfl := Option.some.inj hf
    exact R _ _ _ _ X kb_1 dX10_isPartOf_19
  refine x_iload_n 10 C dX10_isPartOf_9 hl 1 rfl rfl ?_
  refine x_iconst 11 C dX10_isPartOf_10 (1 : Int32) kv_iconst_1 rfl ?_
  refine x_icmp_ne 18 14 C dX10_isPartOf_11 rfl rfl hf (fun hf => ?_) (fun hf => ?_)
  · refine x_iconst 19 C dX10_isPartOf_18 (0 : Int32) kv_iconst_0 rfl ?_
    obtain rfl := Option.some.inj hf
    exact R _ _ _ _ X kb_0 dX10_isPartOf_19
  refine x_iconst 15 C dX10_isPartOf_14 (1 : Int32) kv_iconst_1 rfl ?_
  refine x_goto 19 C dX10_isPartOf_15 rfl ?_
  obtain rfl := Option.some.inj hf
  exact R _ _ _ _ X kb_1 dX10_isPartOf_19
set_option maxHeartbeats 4000000 in
set_option maxRecDepth 100000 in
theorem c_X10_foundAnswer (l : Launch) (D : va_G) (T : KT) (h : Nat → Nat) (v1 v2 v3 : Int32) (m_drawers_full m_drawers_kept : Int32) (m_drawers_partA m_drawers_partB m_drawers_keptA m_drawers_keptB m_drawers_keptFull : Nat → Int32) (m_tape_size m_tape_plain m_tape_omegas m_tape_end m_tape_place m_tape_plainTold m_tape_omegasTold : Int32) (m_tape_bytes : Nat → Int32) (m_euclid_count : Int32) (m_euclid_last_a m_euclid_last_b m_euclid_lastOfFirst_a m_euclid_lastOfFirst_b m_euclid_lastOfSecond_a m_euclid_lastOfSecond_b m_euclid_next_a m_euclid_next_b m_euclid_nextOfFirst_a m_euclid_nextOfFirst_b m_euclid_nextOfSecond_a m_euclid_nextOfSecond_b m_euclid_q_a m_euclid_q_b : Int64) (m_euclid_quotientA m_euclid_quotientB : Nat → Int64) (m_modulus_step m_modulus_width m_modulus_slant m_modulus_square_a m_modulus_square_b : Int64) (m_factors_count m_factors_threes m_factors_unit : Int32) (m_factors_primeA m_factors_primeB m_factors_norms : Nat → Int64) (m_factors_euclid_count : Int32) (m_factors_euclid_last_a m_factors_euclid_last_b m_factors_euclid_lastOfFirst_a m_factors_euclid_lastOfFirst_b m_factors_euclid_lastOfSecond_a m_factors_euclid_lastOfSecond_b m_factors_euclid_next_a m_factors_euclid_next_b m_factors_euclid_nextOfFirst_a m_factors_euclid_nextOfFirst_b m_factors_euclid_nextOfSecond_a m_factors_euclid_nextOfSecond_b m_factors_euclid_q_a m_factors_euclid_q_b : Int64) (m_factors_euclid_quotientA m_factors_euclid_quotientB : Nat → Int64) (m_factors_left_a m_factors_left_b m_factors_found_a m_factors_found_b m_factors_product_a m_factors_product_b : Int64) (m_primes_count : Int32) (m_primes_primeA m_primes_primeB : Nat → Int32) (m_primes_found_a m_primes_found_b : Int64) (m_rings_foundA m_rings_foundB m_rings_all m_rings_mostOfOneRow m_letters_count : Int32) (m_letters_bytes : Nat → Int32) (m_one_a m_one_b m_two_a m_two_b m_three_a m_three_b m_four_a m_four_b m_out_a m_out_b m_spare_a m_spare_b : Int64) (m_marks : Nat → Int32) (x : Int32) (hf : f_X10_foundAnswer v1 v2 v3 m_out_a m_out_b = some x) : kx_MI l yX10_foundAnswer cX10_foundAnswer 4 (some .int) 1 21 D T [.ref (h 0), .int v1, .int v2, .int v3] (wC T h m_drawers_full m_drawers_kept m_drawers_partA m_drawers_partB m_drawers_keptA m_drawers_keptB m_drawers_keptFull m_tape_size m_tape_plain m_tape_omegas m_tape_end m_tape_place m_tape_plainTold m_tape_omegasTold m_tape_bytes m_euclid_count m_euclid_last_a m_euclid_last_b m_euclid_lastOfFirst_a m_euclid_lastOfFirst_b m_euclid_lastOfSecond_a m_euclid_lastOfSecond_b m_euclid_next_a m_euclid_next_b m_euclid_nextOfFirst_a m_euclid_nextOfFirst_b m_euclid_nextOfSecond_a m_euclid_nextOfSecond_b m_euclid_q_a m_euclid_q_b m_euclid_quotientA m_euclid_quotientB m_modulus_step m_modulus_width m_modulus_slant m_modulus_square_a m_modulus_square_b m_factors_count m_factors_threes m_factors_unit m_factors_primeA m_factors_primeB m_factors_norms m_factors_euclid_count m_factors_euclid_last_a m_factors_euclid_last_b m_factors_euclid_lastOfFirst_a m_factors_euclid_lastOfFirst_b m_factors_euclid_lastOfSecond_a m_factors_euclid_lastOfSecond_b m_factors_euclid_next_a m_factors_euclid_next_b m_factors_euclid_nextOfFirst_a m_factors_euclid_nextOfFirst_b m_factors_euclid_nextOfSecond_a m_factors_euclid_nextOfSecond_b m_factors_euclid_q_a m_factors_euclid_q_b m_factors_euclid_quotientA m_factors_euclid_quotientB m_factors_left_a m_factors_left_b m_factors_found_a m_factors_found_b m_factors_product_a m_factors_product_b m_primes_count m_primes_primeA m_primes_primeB m_primes_found_a m_primes_found_b m_rings_foundA m_rings_foundB m_rings_all m_rings_mostOfOneRow m_letters_count m_letters_bytes m_one_a m_one_b m_two_a m_two_b m_three_a m_three_b m_four_a m_four_b m_out_a m_out_b m_spare_a m_spare_b m_marks) (wC T h m_drawers_full m_drawers_kept m_drawers_partA m_drawers_partB m_drawers_keptA m_drawers_keptB m_drawers_keptFull m_tape_size m_tape_plain m_tape_omegas m_tape_end m_tape_place m_tape_plainTold m_tape_omegasTold m_tape_bytes m_euclid_count m_euclid_last_a m_euclid_last_b m_euclid_lastOfFirst_a m_euclid_lastOfFirst_b m_euclid_lastOfSecond_a m_euclid_lastOfSecond_b m_euclid_next_a m_euclid_next_b m_euclid_nextOfFirst_a m_euclid_nextOfFirst_b m_euclid_nextOfSecond_a m_euclid_nextOfSecond_b m_euclid_q_a m_euclid_q_b m_euclid_quotientA m_euclid_quotientB m_modulus_step m_modulus_width m_modulus_slant m_modulus_square_a m_modulus_square_b m_factors_count m_factors_threes m_factors_unit m_factors_primeA m_factors_primeB m_factors_norms m_factors_euclid_count m_factors_euclid_last_a m_factors_euclid_last_b m_factors_euclid_lastOfFirst_a m_factors_euclid_lastOfFirst_b m_factors_euclid_lastOfSecond_a m_factors_euclid_lastOfSecond_b m_factors_euclid_next_a m_factors_euclid_next_b m_factors_euclid_nextOfFirst_a m_factors_euclid_nextOfFirst_b m_factors_euclid_nextOfSecond_a m_factors_euclid_nextOfSecond_b m_factors_euclid_q_a m_factors_euclid_q_b m_factors_euclid_quotientA m_factors_euclid_quotientB m_factors_left_a m_factors_left_b m_factors_found_a m_factors_found_b m_factors_product_a m_factors_product_b m_primes_count m_primes_primeA m_primes_primeB m_primes_found_a m_primes_found_b m_rings_foundA m_rings_foundB m_rings_all m_rings_mostOfOneRow m_letters_count m_letters_bytes m_one_a m_one_b m_two_a m_two_b m_three_a m_three_b m_four_a m_four_b m_out_a m_out_b m_spare_a m_spare_b m_marks) x := by
  refine kx_ofMI RX10 rfl (plainFor_of_name (x := yX10_foundAnswer) kpn_X10) rfl ?_
  intro E A H ls _ C X R hl
  have hl : lv_has ls 4 [(0, .ref (h 0)), (1, .int v1), (2, .int v2), (3, .int v3)] := hl
  rw [f_X10_foundAnswer] at hf
  refine x_iload_n 1 C dX10_foundAnswer_0 hl 2 rfl rfl ?_
  refine x_iconst 2 C dX10_foundAnswer_1 (-1 : Int32) kv_iconst_m1 rfl ?_
  refine x_icmp_ne 7 5 C dX10_foundAnswer_2 rfl rfl hf (fun hf => ?_) (fun hf => ?_)
  · refine x_iload_n 8 C dX10_foundAnswer_7 hl 2 rfl rfl ?_
    refine x_iload_n 9 C dX10_foundAnswer_8 hl 1 rfl rfl ?_
    refine x_icmp_lt 17 12 C dX10_foundAnswer_9 rfl rfl hf (fun hf => ?_) (fun hf => ?_)
    · refine x_aload_n 18 C dX10_foundAnswer_17 hl 0 rfl rfl ?_
      refine x_get 21 C dX10_foundAnswer_18 X kf_X10_83 0 rfl rfl rfl ?_
      refine x_iload_n 22 C dX10_foundAnswer_21 hl 3 rfl rfl ?_
      obtain ⟨y22, hy22, hf⟩ := kx_bind hf
      refine x_callSi 25 C dX10_foundAnswer_22 X hl kl_X10_273 (c_X10_part E.2.1 D T (h 49) v3 m_out_a m_out_b y22 hy22) [] rfl rfl rfl rfl rfl cb_73 rfl (fun H locs X => ?_)
      obtain rfl := Option.some.inj hf
      exact R _ _ _ _ X dX10_foundAnswer_25
    refine x_bipush 14 C dX10_foundAnswer_12 (-4 : Int32) kv_bipush_m4 rfl ?_
    refine x_goto 25 C dX10_foundAnswer_14 rfl ?_
    obtain rfl := Option.some.inj hf
    exact R _ _ _ _ X dX10_foundAnswer_25
  refine x_iload_n 6 C dX10_foundAnswer_5 hl 1 rfl rfl ?_
  obtain rfl := Option.some.inj hf
  exact R _ _ _ _ X dX10_foundAnswer_6
set_option maxHeartbeats 4000000 in
set_option maxRecDepth 100000 in
theorem c_X10_root (l : Launch) (D : va_G) (T : KT) (h : Nat → Nat) (N : Nat) (v1 v2 v3 v4 : Int32) (m_drawers_full m_drawers_kept : Int32) (m_drawers_partA m_drawers_partB m_drawers_keptA m_drawers_keptB m_drawers_keptFull : Nat → Int32) (m_tape_size m_tape_plain m_tape_omegas m_tape_end m_tape_place m_tape_plainTold m_tape_omegasTold : Int32) (m_tape_bytes : Nat → Int32) (m_euclid_count : Int32) (m_euclid_last_a m_euclid_last_b m_euclid_lastOfFirst_a m_euclid_lastOfFirst_b m_euclid_lastOfSecond_a m_euclid_lastOfSecond_b m_euclid_next_a m_euclid_next_b m_euclid_nextOfFirst_a m_euclid_nextOfFirst_b m_euclid_nextOfSecond_a m_euclid_nextOfSecond_b m_euclid_q_a m_euclid_q_b : Int64) (m_euclid_quotientA m_euclid_quotientB : Nat → Int64) (m_modulus_step m_modulus_width m_modulus_slant m_modulus_square_a m_modulus_square_b : Int64) (m_factors_count m_factors_threes m_factors_unit : Int32) (m_factors_primeA m_factors_primeB m_factors_norms : Nat → Int64) (m_factors_euclid_count : Int32) (m_factors_euclid_last_a m_factors_euclid_last_b m_factors_euclid_lastOfFirst_a m_factors_euclid_lastOfFirst_b m_factors_euclid_lastOfSecond_a m_factors_euclid_lastOfSecond_b m_factors_euclid_next_a m_factors_euclid_next_b m_factors_euclid_nextOfFirst_a m_factors_euclid_nextOfFirst_b m_factors_euclid_nextOfSecond_a m_factors_euclid_nextOfSecond_b m_factors_euclid_q_a m_factors_euclid_q_b : Int64) (m_factors_euclid_quotientA m_factors_euclid_quotientB : Nat → Int64) (m_factors_left_a m_factors_left_b m_factors_found_a m_factors_found_b m_factors_product_a m_factors_product_b : Int64) (m_primes_count : Int32) (m_primes_primeA m_primes_primeB : Nat → Int32) (m_primes_found_a m_primes_found_b : Int64) (m_rings_foundA m_rings_foundB m_rings_all m_rings_mostOfOneRow m_letters_count : Int32) (m_letters_bytes : Nat → Int32) (m_one_a m_one_b m_two_a m_two_b m_three_a m_three_b m_four_a m_four_b m_out_a m_out_b m_spare_a m_spare_b : Int64) (m_marks : Nat → Int32) (x : Int32 × Int64 × Int64 × Int64 × Int64 × Int64 × Int64 × Int64 × Int64 × Int64) (hf : f_X10_root N v1 v2 v3 v4 m_drawers_full m_drawers_partA m_drawers_partB m_modulus_step m_modulus_width m_modulus_slant m_one_a m_one_b m_two_a m_two_b m_out_a m_out_b = some x) : kx_MI l yX10_root cX10_root 6 (some .int) 4 114 D T [.ref (h 0), .int v1, .int v2, .int v3, .int v4] (wC T h m_drawers_full m_drawers_kept m_drawers_partA m_drawers_partB m_drawers_keptA m_drawers_keptB m_drawers_keptFull m_tape_size m_tape_plain m_tape_omegas m_tape_end m_tape_place m_tape_plainTold m_tape_omegasTold m_tape_bytes m_euclid_count m_euclid_last_a m_euclid_last_b m_euclid_lastOfFirst_a m_euclid_lastOfFirst_b m_euclid_lastOfSecond_a m_euclid_lastOfSecond_b m_euclid_next_a m_euclid_next_b m_euclid_nextOfFirst_a m_euclid_nextOfFirst_b m_euclid_nextOfSecond_a m_euclid_nextOfSecond_b m_euclid_q_a m_euclid_q_b m_euclid_quotientA m_euclid_quotientB m_modulus_step m_modulus_width m_modulus_slant m_modulus_square_a m_modulus_square_b m_factors_count m_factors_threes m_factors_unit m_factors_primeA m_factors_primeB m_factors_norms m_factors_euclid_count m_factors_euclid_last_a m_factors_euclid_last_b m_factors_euclid_lastOfFirst_a m_factors_euclid_lastOfFirst_b m_factors_euclid_lastOfSecond_a m_factors_euclid_lastOfSecond_b m_factors_euclid_next_a m_factors_euclid_next_b m_factors_euclid_nextOfFirst_a m_factors_euclid_nextOfFirst_b m_factors_euclid_nextOfSecond_a m_factors_euclid_nextOfSecond_b m_factors_euclid_q_a m_factors_euclid_q_b m_factors_euclid_quotientA m_factors_euclid_quotientB m_factors_left_a m_factors_left_b m_factors_found_a m_factors_found_b m_factors_product_a m_factors_product_b m_primes_count m_primes_primeA m_primes_primeB m_primes_found_a m_primes_found_b m_rings_foundA m_rings_foundB m_rings_all m_rings_mostOfOneRow m_letters_count m_letters_bytes m_one_a m_one_b m_two_a m_two_b m_three_a m_three_b m_four_a m_four_b m_out_a m_out_b m_spare_a m_spare_b m_marks) (wC T h m_drawers_full m_drawers_kept m_drawers_partA m_drawers_partB m_drawers_keptA m_drawers_keptB m_drawers_keptFull m_tape_size m_tape_plain m_tape_omegas m_tape_end m_tape_place m_tape_plainTold m_tape_omegasTold m_tape_bytes m_euclid_count m_euclid_last_a m_euclid_last_b m_euclid_lastOfFirst_a m_euclid_lastOfFirst_b m_euclid_lastOfSecond_a m_euclid_lastOfSecond_b m_euclid_next_a m_euclid_next_b m_euclid_nextOfFirst_a m_euclid_nextOfFirst_b m_euclid_nextOfSecond_a m_euclid_nextOfSecond_b m_euclid_q_a m_euclid_q_b m_euclid_quotientA m_euclid_quotientB x.2.1 x.2.2.1 x.2.2.2.1 m_modulus_square_a m_modulus_square_b m_factors_count m_factors_threes m_factors_unit m_factors_primeA m_factors_primeB m_factors_norms m_factors_euclid_count m_factors_euclid_last_a m_factors_euclid_last_b m_factors_euclid_lastOfFirst_a m_factors_euclid_lastOfFirst_b m_factors_euclid_lastOfSecond_a m_factors_euclid_lastOfSecond_b m_factors_euclid_next_a m_factors_euclid_next_b m_factors_euclid_nextOfFirst_a m_factors_euclid_nextOfFirst_b m_factors_euclid_nextOfSecond_a m_factors_euclid_nextOfSecond_b m_factors_euclid_q_a m_factors_euclid_q_b m_factors_euclid_quotientA m_factors_euclid_quotientB m_factors_left_a m_factors_left_b m_factors_found_a m_factors_found_b m_factors_product_a m_factors_product_b m_primes_count m_primes_primeA m_primes_primeB m_primes_found_a m_primes_found_b m_rings_foundA m_rings_foundB m_rings_all m_rings_mostOfOneRow m_letters_count m_letters_bytes x.2.2.2.2.1 x.2.2.2.2.2.1 x.2.2.2.2.2.2.1 x.2.2.2.2.2.2.2.1 m_three_a m_three_b m_four_a m_four_b x.2.2.2.2.2.2.2.2.1 x.2.2.2.2.2.2.2.2.2 m_spare_a m_spare_b m_marks) x.1 := by
  refine kx_ofMI RX10 rfl (plainFor_of_name (x := yX10_root) kpn_X10) rfl ?_
  intro E A H ls _ C X R hl
  have hl : lv_has ls 6 [(0, .ref (h 0)), (1, .int v1), (2, .int v2), (3, .int v3), (4, .int v4)] := hl
  rw [f_X10_root] at hf
  refine x_iload_n 1 C dX10_root_0 hl 3 rfl rfl ?_
  refine x_iconst 2 C dX10_root_1 (-1 : Int32) kv_iconst_m1 rfl ?_
  refine x_icmp_lt 14 5 C dX10_root_2 rfl rfl hf (fun hf => ?_) (fun hf => ?_)
  · refine x_iconst 15 C dX10_root_14 (-1 : Int32) kv_iconst_m1 rfl ?_
    obtain rfl := Option.some.inj hf
    exact R _ _ _ _ X dX10_root_15
  refine x_iload_n 6 C dX10_root_5 hl 3 rfl rfl ?_
  refine x_iload 8 C dX10_root_6 hl 4 rfl rfl ?_
  obtain ⟨y8, hy8, hf⟩ := kx_bind hf
  refine x_callSi 11 C dX10_root_8 X hl kl_X10_298 (c_X10_isPartOf E.2.1 D T  v3 v4  y8 hy8) [] rfl rfl rfl rfl rfl cb_2 rfl (fun H locs X => ?_)
  refine x_if_ne 16 14 C dX10_root_11 rfl rfl hf (fun hf => ?_) (fun hf => ?_)
  · refine x_aload_n 17 C dX10_root_16 hl 0 rfl rfl ?_
    refine x_iload_n 18 C dX10_root_17 hl 1 rfl rfl ?_
    refine x_iload_n 19 C dX10_root_18 hl 2 rfl rfl ?_
    obtain ⟨y19, hy19, hf⟩ := kx_bind hf
    refine x_callVi0 22 C dX10_root_19 X hl kl_X10_176 (c_X10_loadTwo E.2.1 D T h v1 v2 m_drawers_full m_drawers_kept m_drawers_partA m_drawers_partB m_drawers_keptA m_drawers_keptB m_drawers_keptFull m_tape_size m_tape_plain m_tape_omegas m_tape_end m_tape_place m_tape_plainTold m_tape_omegasTold m_tape_bytes m_euclid_count m_euclid_last_a m_euclid_last_b m_euclid_lastOfFirst_a m_euclid_lastOfFirst_b m_euclid_lastOfSecond_a m_euclid_lastOfSecond_b m_euclid_next_a m_euclid_next_b m_euclid_nextOfFirst_a m_euclid_nextOfFirst_b m_euclid_nextOfSecond_a m_euclid_nextOfSecond_b m_euclid_q_a m_euclid_q_b m_euclid_quotientA m_euclid_quotientB m_modulus_step m_modulus_width m_modulus_slant m_modulus_square_a m_modulus_square_b m_factors_count m_factors_threes m_factors_unit m_factors_primeA m_factors_primeB m_factors_norms m_factors_euclid_count m_factors_euclid_last_a m_factors_euclid_last_b m_factors_euclid_lastOfFirst_a m_factors_euclid_lastOfFirst_b m_factors_euclid_lastOfSecond_a m_factors_euclid_lastOfSecond_b m_factors_euclid_next_a m_factors_euclid_next_b m_factors_euclid_nextOfFirst_a m_factors_euclid_nextOfFirst_b m_factors_euclid_nextOfSecond_a m_factors_euclid_nextOfSecond_b m_factors_euclid_q_a m_factors_euclid_q_b m_factors_euclid_quotientA m_factors_euclid_quotientB m_factors_left_a m_factors_left_b m_factors_found_a m_factors_found_b m_factors_product_a m_factors_product_b m_primes_count m_primes_primeA m_primes_primeB m_primes_found_a m_primes_found_b m_rings_foundA m_rings_foundB m_rings_all m_rings_mostOfOneRow m_letters_count m_letters_bytes m_one_a m_one_b m_two_a m_two_b m_three_a m_three_b m_four_a m_four_b m_out_a m_out_b m_spare_a m_spare_b m_marks y19 hy19) rfl rfl [] rfl rfl rfl rfl rfl rfl (fun H locs X => ?_)
    refine x_istore 24 C dX10_root_22 [(5, .int y19.1), (0, .ref (h 0)), (1, .int v1), (2, .int v2), (3, .int v3), (4, .int v4)] hl rfl rfl rfl (fun ls hl => ?_)
    refine x_iload 26 C dX10_root_24 hl 0 rfl rfl ?_
    refine x_if_eq 32 29 C dX10_root_26 rfl rfl hf (fun hf => ?_) (fun hf => ?_)
    · refine x_aload_n 33 C dX10_root_32 hl 1 rfl rfl ?_
      refine x_get 36 C dX10_root_33 X kf_X10_35 0 rfl rfl rfl ?_
      refine x_aload_n 37 C dX10_root_36 hl 1 rfl rfl ?_
      refine x_get 40 C dX10_root_37 X kf_X10_74 0 rfl rfl rfl ?_
      refine x_sipush 43 C dX10_root_40 (2000 : Int32) kv_sipush_2000 rfl ?_
      obtain ⟨y43, hy43, hf⟩ := kx_bind hf
      refine x_callVi 46 C dX10_root_43 X hl kl_X10_287 (c_X4_openFew E.2.1 D T (h 19) (h 20) (h 46) N (2000 : Int32) m_modulus_step m_modulus_width m_modulus_slant y19.2.2.2.1 y19.2.2.2.2 y43 hy43) rfl rfl [] rfl rfl rfl rfl rfl cb_100 rfl (fun H locs X => ?_)
      refine x_if_ne 52 49 C dX10_root_46 rfl rfl hf (fun hf => ?_) (fun hf => ?_)
      · refine x_aload_n 53 C dX10_root_52 hl 1 rfl rfl ?_
        refine x_get 56 C dX10_root_53 X kf_X10_35 0 rfl rfl rfl ?_
        refine x_aload_n 57 C dX10_root_56 hl 1 rfl rfl ?_
        refine x_get 60 C dX10_root_57 X kf_X10_70 0 rfl rfl rfl ?_
        obtain ⟨y60, hy60, hf⟩ := kx_bind hf
        refine x_callVv 63 C dX10_root_60 X hl kl_X10_270 (c_X4_reduce E.2.1 D T (h 19) (h 20) (h 45)  y43.2.1 y43.2.2.1 y43.2.2.2 y19.2.1 y19.2.2.1 y60 hy60) rfl rfl [] rfl rfl rfl rfl rfl cb_98 rfl (fun H locs X => ?_)
        refine x_aload_n 64 C dX10_root_63 hl 1 rfl rfl ?_
        refine x_aload_n 65 C dX10_root_64 hl 1 rfl rfl ?_
        refine x_iconst 66 C dX10_root_65 (1 : Int32) kv_iconst_1 rfl ?_
        refine x_aload_n 67 C dX10_root_66 hl 1 rfl rfl ?_
        refine x_get 70 C dX10_root_67 X kf_X10_70 0 rfl rfl rfl ?_
        refine x_iload_n 71 C dX10_root_70 hl 4 rfl rfl ?_
        obtain ⟨y71, hy71, hf⟩ := kx_bind hf
        refine x_callVi0 74 C dX10_root_71 X hl kl_X10_294 (c_X10_seekResidue_p2_one E.2.1 D T h N (1 : Int32) v3 m_drawers_full m_drawers_kept m_drawers_partA m_drawers_partB m_drawers_keptA m_drawers_keptB m_drawers_keptFull m_tape_size m_tape_plain m_tape_omegas m_tape_end m_tape_place m_tape_plainTold m_tape_omegasTold m_tape_bytes m_euclid_count m_euclid_last_a m_euclid_last_b m_euclid_lastOfFirst_a m_euclid_lastOfFirst_b m_euclid_lastOfSecond_a m_euclid_lastOfSecond_b m_euclid_next_a m_euclid_next_b m_euclid_nextOfFirst_a m_euclid_nextOfFirst_b m_euclid_nextOfSecond_a m_euclid_nextOfSecond_b m_euclid_q_a m_euclid_q_b m_euclid_quotientA m_euclid_quotientB y43.2.1 y43.2.2.1 y43.2.2.2 m_modulus_square_a m_modulus_square_b m_factors_count m_factors_threes m_factors_unit m_factors_primeA m_factors_primeB m_factors_norms m_factors_euclid_count m_factors_euclid_last_a m_factors_euclid_last_b m_factors_euclid_lastOfFirst_a m_factors_euclid_lastOfFirst_b m_factors_euclid_lastOfSecond_a m_factors_euclid_lastOfSecond_b m_factors_euclid_next_a m_factors_euclid_next_b m_factors_euclid_nextOfFirst_a m_factors_euclid_nextOfFirst_b m_factors_euclid_nextOfSecond_a m_factors_euclid_nextOfSecond_b m_factors_euclid_q_a m_factors_euclid_q_b m_factors_euclid_quotientA m_factors_euclid_quotientB m_factors_left_a m_factors_left_b m_factors_found_a m_factors_found_b m_factors_product_a m_factors_product_b m_primes_count m_primes_primeA m_primes_primeB m_primes_found_a m_primes_found_b m_rings_foundA m_rings_foundB m_rings_all m_rings_mostOfOneRow m_letters_count m_letters_bytes y60.1 y60.2 y19.2.2.2.1 y19.2.2.2.2 m_three_a m_three_b m_four_a m_four_b m_out_a m_out_b m_spare_a m_spare_b m_marks y71 hy71) rfl rfl [.ref (h 0)] rfl rfl rfl rfl rfl rfl (fun H locs X => ?_)
        refine x_iload_n 75 C dX10_root_74 hl 4 rfl rfl ?_
        refine x_iload 77 C dX10_root_75 hl 5 rfl rfl ?_
        obtain ⟨y77, hy77, hf⟩ := kx_bind hf
        refine x_callVi0 80 C dX10_root_77 X hl kl_X10_302 (c_X10_foundAnswer E.2.1 D T h y71.1 v3 v4 m_drawers_full m_drawers_kept m_drawers_partA m_drawers_partB m_drawers_keptA m_drawers_keptB m_drawers_keptFull m_tape_size m_tape_plain m_tape_omegas m_tape_end m_tape_place m_tape_plainTold m_tape_omegasTold m_tape_bytes m_euclid_count m_euclid_last_a m_euclid_last_b m_euclid_lastOfFirst_a m_euclid_lastOfFirst_b m_euclid_lastOfSecond_a m_euclid_lastOfSecond_b m_euclid_next_a m_euclid_next_b m_euclid_nextOfFirst_a m_euclid_nextOfFirst_b m_euclid_nextOfSecond_a m_euclid_nextOfSecond_b m_euclid_q_a m_euclid_q_b m_euclid_quotientA m_euclid_quotientB y43.2.1 y43.2.2.1 y43.2.2.2 m_modulus_square_a m_modulus_square_b m_factors_count m_factors_threes m_factors_unit m_factors_primeA m_factors_primeB m_factors_norms m_factors_euclid_count m_factors_euclid_last_a m_factors_euclid_last_b m_factors_euclid_lastOfFirst_a m_factors_euclid_lastOfFirst_b m_factors_euclid_lastOfSecond_a m_factors_euclid_lastOfSecond_b m_factors_euclid_next_a m_factors_euclid_next_b m_factors_euclid_nextOfFirst_a m_factors_euclid_nextOfFirst_b m_factors_euclid_nextOfSecond_a m_factors_euclid_nextOfSecond_b m_factors_euclid_q_a m_factors_euclid_q_b m_factors_euclid_quotientA m_factors_euclid_quotientB m_factors_left_a m_factors_left_b m_factors_found_a m_factors_found_b m_factors_product_a m_factors_product_b m_primes_count m_primes_primeA m_primes_primeB m_primes_found_a m_primes_found_b m_rings_foundA m_rings_foundB m_rings_all m_rings_mostOfOneRow m_letters_count m_letters_bytes y60.1 y60.2 y19.2.2.2.1 y19.2.2.2.2 m_three_a m_three_b m_four_a m_four_b y71.2.1 y71.2.2 m_spare_a m_spare_b m_marks y77 hy77) rfl rfl [] rfl rfl rfl rfl rfl rfl (fun H locs X => ?_)
        obtain rfl := Option.some.inj hf
        exact R _ _ _ _ X dX10_root_80
      refine x_bipush 51 C dX10_root_49 (-3 : Int32) kv_bipush_m3 rfl ?_
      obtain rfl := Option.some.inj hf
      exact R _ _ _ _ X dX10_root_51
    refine x_iload 31 C dX10_root_29 hl 0 rfl rfl ?_
    obtain rfl := Option.some.inj hf
    exact R _ _ _ _ X dX10_root_31
  refine x_iconst 15 C dX10_root_14 (-1 : Int32) kv_iconst_m1 rfl ?_
  obtain rfl := Option.some.inj hf
  exact R _ _ _ _ X dX10_root_15
set_option maxHeartbeats 4000000 in
set_option maxRecDepth 100000 in
theorem w_X11_looksFor_83 {E : KE} {A : Nat → Prop} {D : va_G} {T : KT} (h : Nat → Nat) (C : kx_C E cX11_looksFor 19 (some .int) RX11 5 129 D T) (N : Nat) (x : Int32 × Int64 × Int64) (m_taped m_states m_threes m_primes m_ones m_unit : Int32) (m_allParts m_allNorms m_allClasses : Int64) (m_odd : Int32) (m_boxWide m_boxHigh m_boxStep : Int64) (m_partingMany : Int32) (m_qa m_qb m_la m_lb m_sa m_sb m_ta m_tb : Int64) (m_listed m_tells m_wanted m_found : Int32) (m_bits : Int64) (m_power2 m_rings m_ringA m_ringB m_seedNow : Int32) (m_tape m_has m_keptHas m_first m_second m_keptFirst m_keptSecond m_pa m_pb m_pNorm m_cubed m_isOpen m_signs m_often m_la0 m_lb0 : Nat → Int32) (R : kx_RI E cX11_looksFor D A (wM T h m_taped m_states x.2.1 x.2.2 m_threes m_primes m_ones m_unit m_allParts m_allNorms m_allClasses m_odd m_boxWide m_boxHigh m_boxStep m_partingMany m_qa m_qb m_la m_lb m_sa m_sb m_ta m_tb m_listed m_tells m_wanted m_found m_bits m_power2 m_rings m_ringA m_ringB m_seedNow m_tape m_has m_keptHas m_first m_second m_keptFirst m_keptSecond m_pa m_pb m_pNorm m_cubed m_isOpen m_signs m_often m_la0 m_lb0) x.1) (k39 : Int32 → Int32 → Int32 → Int32 → Int64 → Int64 → Int32 → Int32 → Int64 → Int64 → Int64 → Int64 → Int64 → Option (Int32 × Int64 × Int64)) (hk39 : ∀ (m_ra m_rb : Int64) (v1 v10 v11 v12 : Int32) (v13 v15 : Int64) (v17 v18 : Int32) (H : Heap) (locs : List Loc) (ls : Array Slot), kx_H E D A H locs (wM T h m_taped m_states m_ra m_rb m_threes m_primes m_ones m_unit m_allParts m_allNorms m_allClasses m_odd m_boxWide m_boxHigh m_boxStep m_partingMany m_qa m_qb m_la m_lb m_sa m_sb m_ta m_tb m_listed m_tells m_wanted m_found m_bits m_power2 m_rings m_ringA m_ringB m_seedNow m_tape m_has m_keptHas m_first m_second m_keptFirst m_keptSecond m_pa m_pb m_pNorm m_cubed m_isOpen m_signs m_often m_la0 m_lb0) → lv_has ls 19 [(0, .ref (h 0)), (1, .int v1), (10, .int v10), (11, .int v11), (12, .int v12), (13, .long v13), (15, .long v15), (17, .int v17), (18, .int v18)] → k39 v1 v10 v11 v12 v13 v15 v17 v18 m_ra m_rb m_boxWide m_boxHigh m_boxStep = some x → kx_W E H locs 39 ls []) : ∀ (m_ra m_rb : Int64) (v1 v10 v11 v12 : Int32) (v13 v15 : Int64) (v17 v18 : Int32) (H : Heap) (locs : List Loc) (ls : Array Slot), kx_H E D A H locs (wM T h m_taped m_states m_ra m_rb m_threes m_primes m_ones m_unit m_allParts m_allNorms m_allClasses m_odd m_boxWide m_boxHigh m_boxStep m_partingMany m_qa m_qb m_la m_lb m_sa m_sb m_ta m_tb m_listed m_tells m_wanted m_found m_bits m_power2 m_rings m_ringA m_ringB m_seedNow m_tape m_has m_keptHas m_first m_second m_keptFirst m_keptSecond m_pa m_pb m_pNorm m_cubed m_isOpen m_signs m_often m_la0 m_lb0) → lv_has ls 19 [(0, .ref (h 0)), (1, .int v1), (10, .int v10), (11, .int v11), (12, .int v12), (13, .long v13), (15, .long v15), (17, .int v17), (18, .int v18)] → f_X11_looksFor_83 N k39 v1 v10 v11 v12 v13 v15 v17 v18 m_ra m_rb m_boxWide m_boxHigh m_boxStep = some x → kx_W E H locs 83 ls [] := by
  intro m_ra m_rb v1 v10 v11 v12 v13 v15 v17 v18 H locs ls X hl hf
  rw [f_X11_looksFor_83] at hf
  refine x_aload_n 84 C dX11_looksFor_83 hl 0 rfl rfl ?_
  obtain ⟨y84, hy84, hf⟩ := kx_bind hf
  refine x_callVi0 87 C dX11_looksFor_84 X hl kl_X11_328 (c_X11_placeNow E.2.1 D T h  m_taped m_states m_ra m_rb m_threes m_primes m_ones m_unit m_allParts m_allNorms m_allClasses m_odd m_boxWide m_boxHigh m_boxStep m_partingMany m_qa m_qb m_la m_lb m_sa m_sb m_ta m_tb m_listed m_tells m_wanted m_found m_bits m_power2 m_rings m_ringA m_ringB m_seedNow m_tape m_has m_keptHas m_first m_second m_keptFirst m_keptSecond m_pa m_pb m_pNorm m_cubed m_isOpen m_signs m_often m_la0 m_lb0 y84 hy84) rfl rfl [] rfl rfl rfl rfl rfl rfl (fun H locs X => ?_)
  refine x_iload 89 C dX11_looksFor_87 hl 4 rfl rfl ?_
  refine x_icmp_eq 95 92 C dX11_looksFor_89 rfl rfl hf (fun hf => ?_) (fun hf => ?_)
  · refine x_iload 97 C dX11_looksFor_95 hl 7 rfl rfl ?_
    refine x_iload 99 C dX11_looksFor_97 hl 2 rfl rfl ?_
    refine x_icmp_ne 115 102 C dX11_looksFor_99 rfl rfl hf (fun hf => ?_) (fun hf => ?_)
    · refine x_iload 117 C dX11_looksFor_115 hl 7 rfl rfl ?_
      refine x_iconst 118 C dX11_looksFor_117 (1 : Int32) kv_iconst_1 rfl ?_
      refine x_iadd 119 C dX11_looksFor_118 rfl ?_
      refine x_istore 121 C dX11_looksFor_119 [(17, .int (v17 + (1 : Int32))), (0, .ref (h 0)), (1, .int v1), (10, .int v10), (11, .int v11), (12, .int v12), (13, .long v13), (15, .long v15), (18, .int v18)] hl rfl rfl rfl (fun ls hl => ?_)
      refine x_iinc 124 C dX11_looksFor_121 (1 : Int32) kv_iconst_1 [(18, .int (v18 + (1 : Int32))), (17, .int (v17 + (1 : Int32))), (0, .ref (h 0)), (1, .int v1), (10, .int v10), (11, .int v11), (12, .int v12), (13, .long v13), (15, .long v15)] hl 8 rfl rfl rfl rfl (fun ls hl => ?_)
      refine x_goto 39 C dX11_looksFor_124 rfl ?_
      exact hk39 m_ra m_rb v1 v10 v11 v12 v13 v15 (v17 + (1 : Int32)) (v18 + (1 : Int32)) _ _ _ X (lv_sub hl [2, 3, 4, 5, 6, 7, 8, 1, 0] rfl) hf
    refine x_aload_n 103 C dX11_looksFor_102 hl 0 rfl rfl ?_
    refine x_iload 105 C dX11_looksFor_103 hl 8 rfl rfl ?_
    obtain ⟨y105, hy105, hf⟩ := kx_bind hf
    refine x_callVv0 108 C dX11_looksFor_105 X hl kl_X11_318 (c_X11_comes E.2.1 D T h v18 m_taped m_states m_ra m_rb m_threes m_primes m_ones m_unit m_allParts m_allNorms m_allClasses m_odd m_boxWide m_boxHigh m_boxStep m_partingMany m_qa m_qb m_la m_lb m_sa m_sb m_ta m_tb m_listed m_tells m_wanted m_found m_bits m_power2 m_rings m_ringA m_ringB m_seedNow m_tape m_has m_keptHas m_first m_second m_keptFirst m_keptSecond m_pa m_pb m_pNorm m_cubed m_isOpen m_signs m_often m_la0 m_lb0 y105 hy105) rfl rfl [] rfl rfl rfl rfl rfl rfl (fun H locs X => ?_)
    refine x_aload_n 109 C dX11_looksFor_108 hl 0 rfl rfl ?_
    refine x_iload 111 C dX11_looksFor_109 hl 3 rfl rfl ?_
    obtain ⟨y111, hy111, hf⟩ := kx_bind hf
    refine x_callVi0 114 C dX11_looksFor_111 X hl kl_X11_276 (c_X11_part E.2.1 D T h v11 m_taped m_states y105.1 y105.2 m_threes m_primes m_ones m_unit m_allParts m_allNorms m_allClasses m_odd m_boxWide m_boxHigh m_boxStep m_partingMany m_qa m_qb m_la m_lb m_sa m_sb m_ta m_tb m_listed m_tells m_wanted m_found m_bits m_power2 m_rings m_ringA m_ringB m_seedNow m_tape m_has m_keptHas m_first m_second m_keptFirst m_keptSecond m_pa m_pb m_pNorm m_cubed m_isOpen m_signs m_often m_la0 m_lb0 y111 hy111) rfl rfl [] rfl rfl rfl rfl rfl rfl (fun H locs X => ?_)
    obtain rfl := Option.some.inj hf
    exact R _ _ _ _ X dX11_looksFor_114
  refine x_goto 121 C dX11_looksFor_92 rfl ?_
  refine x_iinc 124 C dX11_looksFor_121 (1 : Int32) kv_iconst_1 [(18, .int (v18 + (1 : Int32))), (0, .ref (h 0)), (1, .int v1), (10, .int v10), (11, .int v11), (12, .int v12), (13, .long v13), (15, .long v15), (17, .int v17)] hl 8 rfl rfl rfl rfl (fun ls hl => ?_)
  refine x_goto 39 C dX11_looksFor_124 rfl ?_
  exact hk39 m_ra m_rb v1 v10 v11 v12 v13 v15 v17 (v18 + (1 : Int32)) _ _ _ X (lv_sub hl [1, 2, 3, 4, 5, 6, 7, 8, 0] rfl) hf
set_option maxHeartbeats 4000000 in
set_option maxRecDepth 100000 in
theorem w_X11_looksFor_39 {E : KE} {A : Nat → Prop} {D : va_G} {T : KT} (h : Nat → Nat) (C : kx_C E cX11_looksFor 19 (some .int) RX11 5 129 D T) (N : Nat) (x : Int32 × Int64 × Int64) (m_taped m_states m_threes m_primes m_ones m_unit : Int32) (m_allParts m_allNorms m_allClasses : Int64) (m_odd : Int32) (m_boxWide m_boxHigh m_boxStep : Int64) (m_partingMany : Int32) (m_qa m_qb m_la m_lb m_sa m_sb m_ta m_tb : Int64) (m_listed m_tells m_wanted m_found : Int32) (m_bits : Int64) (m_power2 m_rings m_ringA m_ringB m_seedNow : Int32) (m_tape m_has m_keptHas m_first m_second m_keptFirst m_keptSecond m_pa m_pb m_pNorm m_cubed m_isOpen m_signs m_often m_la0 m_lb0 : Nat → Int32) (R : kx_RI E cX11_looksFor D A (wM T h m_taped m_states x.2.1 x.2.2 m_threes m_primes m_ones m_unit m_allParts m_allNorms m_allClasses m_odd m_boxWide m_boxHigh m_boxStep m_partingMany m_qa m_qb m_la m_lb m_sa m_sb m_ta m_tb m_listed m_tells m_wanted m_found m_bits m_power2 m_rings m_ringA m_ringB m_seedNow m_tape m_has m_keptHas m_first m_second m_keptFirst m_keptSecond m_pa m_pb m_pNorm m_cubed m_isOpen m_signs m_often m_la0 m_lb0) x.1) : ∀ (k : Nat), ∀ (m_ra m_rb : Int64) (v1 v10 v11 v12 : Int32) (v13 v15 : Int64) (v17 v18 : Int32) (H : Heap) (locs : List Loc) (ls : Array Slot), kx_H E D A H locs (wM T h m_taped m_states m_ra m_rb m_threes m_primes m_ones m_unit m_allParts m_allNorms m_allClasses m_odd m_boxWide m_boxHigh m_boxStep m_partingMany m_qa m_qb m_la m_lb m_sa m_sb m_ta m_tb m_listed m_tells m_wanted m_found m_bits m_power2 m_rings m_ringA m_ringB m_seedNow m_tape m_has m_keptHas m_first m_second m_keptFirst m_keptSecond m_pa m_pb m_pNorm m_cubed m_isOpen m_signs m_often m_la0 m_lb0) → lv_has ls 19 [(0, .ref (h 0)), (1, .int v1), (10, .int v10), (11, .int v11), (12, .int v12), (13, .long v13), (15, .long v15), (17, .int v17), (18, .int v18)] → f_X11_looksFor_39 N k v1 v10 v11 v12 v13 v15 v17 v18 m_ra m_rb m_boxWide m_boxHigh m_boxStep = some x → kx_W E H locs 39 ls [] := by
  intro k
  induction k with
  | zero =>
    intro m_ra m_rb v1 v10 v11 v12 v13 v15 v17 v18 H locs ls X hl hf
    cases (show (none : Option (Int32 × Int64 × Int64)) = some x from hf)
  | succ k ih =>
    intro m_ra m_rb v1 v10 v11 v12 v13 v15 v17 v18 H locs ls X hl hf
    rw [f_X11_looksFor_39] at hf
    refine x_iload 41 C dX11_looksFor_39 hl 8 rfl rfl ?_
    refine x_aload_n 42 C dX11_looksFor_41 hl 0 rfl rfl ?_
    obtain ⟨y42, hy42, hf⟩ := kx_bind hf
    refine x_callVi0 45 C dX11_looksFor_42 X hl kl_X11_321 (c_X11_classesNow E.2.1 D T h  m_taped m_states m_ra m_rb m_threes m_primes m_ones m_unit m_allParts m_allNorms m_allClasses m_odd m_boxWide m_boxHigh m_boxStep m_partingMany m_qa m_qb m_la m_lb m_sa m_sb m_ta m_tb m_listed m_tells m_wanted m_found m_bits m_power2 m_rings m_ringA m_ringB m_seedNow m_tape m_has m_keptHas m_first m_second m_keptFirst m_keptSecond m_pa m_pb m_pNorm m_cubed m_isOpen m_signs m_often m_la0 m_lb0 y42 hy42) rfl rfl [.int v18] rfl rfl rfl rfl rfl rfl (fun H locs X => ?_)
    refine x_icmp_ge 127 48 C dX11_looksFor_45 rfl rfl hf (fun hf => ?_) (fun hf => ?_)
    · refine x_iload 129 C dX11_looksFor_127 hl 2 rfl rfl ?_
      refine x_iconst 130 C dX11_looksFor_129 (-1 : Int32) kv_iconst_m1 rfl ?_
      refine x_icmp_ne 138 133 C dX11_looksFor_130 rfl rfl hf (fun hf => ?_) (fun hf => ?_)
      · refine x_bipush 140 C dX11_looksFor_138 (-4 : Int32) kv_bipush_m4 rfl ?_
        obtain rfl := Option.some.inj hf
        exact R _ _ _ _ X dX11_looksFor_140
      refine x_iload 135 C dX11_looksFor_133 hl 7 rfl rfl ?_
      refine x_goto 140 C dX11_looksFor_135 rfl ?_
      obtain rfl := Option.some.inj hf
      exact R _ _ _ _ X dX11_looksFor_140
    refine x_iload_n 49 C dX11_looksFor_48 hl 1 rfl rfl ?_
    refine x_if_eq 61 52 C dX11_looksFor_49 rfl rfl hf (fun hf => ?_) (fun hf => ?_)
    · refine x_aload_n 62 C dX11_looksFor_61 hl 0 rfl rfl ?_
      refine x_iload 64 C dX11_looksFor_62 hl 8 rfl rfl ?_
      obtain ⟨y64, hy64, hf⟩ := kx_bind hf
      refine x_callVv0 67 C dX11_looksFor_64 X hl kl_X11_318 (c_X11_comes E.2.1 D T h v18 m_taped m_states m_ra m_rb m_threes m_primes m_ones m_unit m_allParts m_allNorms m_allClasses m_odd m_boxWide m_boxHigh m_boxStep m_partingMany m_qa m_qb m_la m_lb m_sa m_sb m_ta m_tb m_listed m_tells m_wanted m_found m_bits m_power2 m_rings m_ringA m_ringB m_seedNow m_tape m_has m_keptHas m_first m_second m_keptFirst m_keptSecond m_pa m_pb m_pNorm m_cubed m_isOpen m_signs m_often m_la0 m_lb0 y64 hy64) rfl rfl [] rfl rfl rfl rfl rfl rfl (fun H locs X => ?_)
      refine x_aload_n 68 C dX11_looksFor_67 hl 0 rfl rfl ?_
      refine x_lload 70 C dX11_looksFor_68 hl 5 rfl rfl ?_
      refine x_lload 72 C dX11_looksFor_70 hl 6 rfl rfl ?_
      refine x_aload_n 73 C dX11_looksFor_72 hl 0 rfl rfl ?_
      refine x_get 76 C dX11_looksFor_73 X kf_X11_105 0 rfl rfl rfl ?_
      refine x_aload_n 77 C dX11_looksFor_76 hl 0 rfl rfl ?_
      refine x_get 80 C dX11_looksFor_77 X kf_X11_109 0 rfl rfl rfl ?_
      obtain ⟨y80, hy80, hf⟩ := kx_bind hf
      refine x_callVv0 83 C dX11_looksFor_80 X hl kl_X11_262 (c_X11_timesIn E.2.1 D T h v13 v15 y64.1 y64.2 m_taped m_states y64.1 y64.2 m_threes m_primes m_ones m_unit m_allParts m_allNorms m_allClasses m_odd m_boxWide m_boxHigh m_boxStep m_partingMany m_qa m_qb m_la m_lb m_sa m_sb m_ta m_tb m_listed m_tells m_wanted m_found m_bits m_power2 m_rings m_ringA m_ringB m_seedNow m_tape m_has m_keptHas m_first m_second m_keptFirst m_keptSecond m_pa m_pb m_pNorm m_cubed m_isOpen m_signs m_often m_la0 m_lb0 y80 hy80) rfl rfl [] rfl rfl rfl rfl rfl rfl (fun H locs X => ?_)
      exact w_X11_looksFor_83 h C N x m_taped m_states m_threes m_primes m_ones m_unit m_allParts m_allNorms m_allClasses m_odd m_boxWide m_boxHigh m_boxStep m_partingMany m_qa m_qb m_la m_lb m_sa m_sb m_ta m_tb m_listed m_tells m_wanted m_found m_bits m_power2 m_rings m_ringA m_ringB m_seedNow m_tape m_has m_keptHas m_first m_second m_keptFirst m_keptSecond m_pa m_pb m_pNorm m_cubed m_isOpen m_signs m_often m_la0 m_lb0 R (f_X11_looksFor_39 N k) ih y80.1 y80.2 v1 v10 v11 v12 v13 v15 v17 v18 _ _ _ X (lv_sub hl [0, 1, 2, 3, 4, 5, 6, 7, 8] rfl) hf
    refine x_aload_n 53 C dX11_looksFor_52 hl 0 rfl rfl ?_
    refine x_iload 55 C dX11_looksFor_53 hl 8 rfl rfl ?_
    obtain ⟨y55, hy55, hf⟩ := kx_bind hf
    refine x_callVv0 58 C dX11_looksFor_55 X hl kl_X11_325 (c_X11_cubes E.2.1 D T h v18 m_taped m_states m_ra m_rb m_threes m_primes m_ones m_unit m_allParts m_allNorms m_allClasses m_odd m_boxWide m_boxHigh m_boxStep m_partingMany m_qa m_qb m_la m_lb m_sa m_sb m_ta m_tb m_listed m_tells m_wanted m_found m_bits m_power2 m_rings m_ringA m_ringB m_seedNow m_tape m_has m_keptHas m_first m_second m_keptFirst m_keptSecond m_pa m_pb m_pNorm m_cubed m_isOpen m_signs m_often m_la0 m_lb0 y55 hy55) rfl rfl [] rfl rfl rfl rfl rfl rfl (fun H locs X => ?_)
    refine x_goto 83 C dX11_looksFor_58 rfl ?_
    exact w_X11_looksFor_83 h C N x m_taped m_states m_threes m_primes m_ones m_unit m_allParts m_allNorms m_allClasses m_odd m_boxWide m_boxHigh m_boxStep m_partingMany m_qa m_qb m_la m_lb m_sa m_sb m_ta m_tb m_listed m_tells m_wanted m_found m_bits m_power2 m_rings m_ringA m_ringB m_seedNow m_tape m_has m_keptHas m_first m_second m_keptFirst m_keptSecond m_pa m_pb m_pNorm m_cubed m_isOpen m_signs m_often m_la0 m_lb0 R (f_X11_looksFor_39 N k) ih y55.1 y55.2 v1 v10 v11 v12 v13 v15 v17 v18 _ _ _ X (lv_sub hl [0, 1, 2, 3, 4, 5, 6, 7, 8] rfl) hf
set_option maxHeartbeats 4000000 in
set_option maxRecDepth 100000 in
theorem c_X11_looksFor (l : Launch) (D : va_G) (T : KT) (h : Nat → Nat) (N : Nat) (v1 : Int32) (v2 v4 v6 v8 : Int64) (v10 v11 : Int32) (m_taped m_states : Int32) (m_ra m_rb : Int64) (m_threes m_primes m_ones m_unit : Int32) (m_allParts m_allNorms m_allClasses : Int64) (m_odd : Int32) (m_boxWide m_boxHigh m_boxStep : Int64) (m_partingMany : Int32) (m_qa m_qb m_la m_lb m_sa m_sb m_ta m_tb : Int64) (m_listed m_tells m_wanted m_found : Int32) (m_bits : Int64) (m_power2 m_rings m_ringA m_ringB m_seedNow : Int32) (m_tape m_has m_keptHas m_first m_second m_keptFirst m_keptSecond m_pa m_pb m_pNorm m_cubed m_isOpen m_signs m_often m_la0 m_lb0 : Nat → Int32) (x : Int32 × Int64 × Int64) (hf : f_X11_looksFor N v1 v2 v4 v6 v8 v10 v11 m_boxWide m_boxHigh m_boxStep = some x) : kx_MI l yX11_looksFor cX11_looksFor 19 (some .int) 5 129 D T [.ref (h 0), .int v1, .long v2, .long v4, .long v6, .long v8, .int v10, .int v11] (wM T h m_taped m_states m_ra m_rb m_threes m_primes m_ones m_unit m_allParts m_allNorms m_allClasses m_odd m_boxWide m_boxHigh m_boxStep m_partingMany m_qa m_qb m_la m_lb m_sa m_sb m_ta m_tb m_listed m_tells m_wanted m_found m_bits m_power2 m_rings m_ringA m_ringB m_seedNow m_tape m_has m_keptHas m_first m_second m_keptFirst m_keptSecond m_pa m_pb m_pNorm m_cubed m_isOpen m_signs m_often m_la0 m_lb0) (wM T h m_taped m_states x.2.1 x.2.2 m_threes m_primes m_ones m_unit m_allParts m_allNorms m_allClasses m_odd m_boxWide m_boxHigh m_boxStep m_partingMany m_qa m_qb m_la m_lb m_sa m_sb m_ta m_tb m_listed m_tells m_wanted m_found m_bits m_power2 m_rings m_ringA m_ringB m_seedNow m_tape m_has m_keptHas m_first m_second m_keptFirst m_keptSecond m_pa m_pb m_pNorm m_cubed m_isOpen m_signs m_often m_la0 m_lb0) x.1 := by
  refine kx_ofMI RX11 rfl (plainFor_of_name (x := yX11_looksFor) kpn_X11) rfl ?_
  intro E A H ls _ C X R hl
  have hl : lv_has ls 19 [(0, .ref (h 0)), (1, .int v1), (2, .long v2), (4, .long v4), (6, .long v6), (8, .long v8), (10, .int v10), (11, .int v11)] := hl
  rw [f_X11_looksFor] at hf
  refine x_aload_n 1 C dX11_looksFor_0 hl 0 rfl rfl ?_
  refine x_lload 3 C dX11_looksFor_1 hl 4 rfl rfl ?_
  refine x_lload 5 C dX11_looksFor_3 hl 5 rfl rfl ?_
  obtain ⟨y5, hy5, hf⟩ := kx_bind hf
  refine x_callVv0 8 C dX11_looksFor_5 X hl kl_X11_259 (c_X11_boxes E.2.1 D T h v6 v8 m_taped m_states m_ra m_rb m_threes m_primes m_ones m_unit m_allParts m_allNorms m_allClasses m_odd m_boxWide m_boxHigh m_boxStep m_partingMany m_qa m_qb m_la m_lb m_sa m_sb m_ta m_tb m_listed m_tells m_wanted m_found m_bits m_power2 m_rings m_ringA m_ringB m_seedNow m_tape m_has m_keptHas m_first m_second m_keptFirst m_keptSecond m_pa m_pb m_pNorm m_cubed m_isOpen m_signs m_often m_la0 m_lb0 y5 hy5) rfl rfl [] rfl rfl rfl rfl rfl rfl (fun H locs X => ?_)
  refine x_aload_n 9 C dX11_looksFor_8 hl 0 rfl rfl ?_
  obtain ⟨y9, hy9, hf⟩ := kx_bind hf
  refine x_callVi0 12 C dX11_looksFor_9 X hl kl_X11_328 (c_X11_placeNow E.2.1 D T h  m_taped m_states y5.1 y5.2 m_threes m_primes m_ones m_unit m_allParts m_allNorms m_allClasses m_odd m_boxWide m_boxHigh m_boxStep m_partingMany m_qa m_qb m_la m_lb m_sa m_sb m_ta m_tb m_listed m_tells m_wanted m_found m_bits m_power2 m_rings m_ringA m_ringB m_seedNow m_tape m_has m_keptHas m_first m_second m_keptFirst m_keptSecond m_pa m_pb m_pNorm m_cubed m_isOpen m_signs m_often m_la0 m_lb0 y9 hy9) rfl rfl [] rfl rfl rfl rfl rfl rfl (fun H locs X => ?_)
  refine x_istore 14 C dX11_looksFor_12 [(12, .int y9), (0, .ref (h 0)), (1, .int v1), (2, .long v2), (4, .long v4), (6, .long v6), (8, .long v8), (10, .int v10), (11, .int v11)] hl rfl rfl rfl (fun ls hl => ?_)
  refine x_aload_n 15 C dX11_looksFor_14 hl 1 rfl rfl ?_
  refine x_lload_n 16 C dX11_looksFor_15 hl 3 rfl rfl ?_
  refine x_lload 18 C dX11_looksFor_16 hl 4 rfl rfl ?_
  obtain ⟨y18, hy18, hf⟩ := kx_bind hf
  refine x_callVv0 21 C dX11_looksFor_18 X hl kl_X11_259 (c_X11_boxes E.2.1 D T h v2 v4 m_taped m_states y5.1 y5.2 m_threes m_primes m_ones m_unit m_allParts m_allNorms m_allClasses m_odd m_boxWide m_boxHigh m_boxStep m_partingMany m_qa m_qb m_la m_lb m_sa m_sb m_ta m_tb m_listed m_tells m_wanted m_found m_bits m_power2 m_rings m_ringA m_ringB m_seedNow m_tape m_has m_keptHas m_first m_second m_keptFirst m_keptSecond m_pa m_pb m_pNorm m_cubed m_isOpen m_signs m_often m_la0 m_lb0 y18 hy18) rfl rfl [] rfl rfl rfl rfl rfl rfl (fun H locs X => ?_)
  refine x_aload_n 22 C dX11_looksFor_21 hl 1 rfl rfl ?_
  refine x_get 25 C dX11_looksFor_22 X kf_X11_105 0 rfl rfl rfl ?_
  refine x_lstore 27 C dX11_looksFor_25 [(13, .long y18.1), (12, .int y9), (0, .ref (h 0)), (1, .int v1), (2, .long v2), (4, .long v4), (6, .long v6), (8, .long v8), (10, .int v10), (11, .int v11)] hl rfl rfl rfl (fun ls hl => ?_)
  refine x_aload_n 28 C dX11_looksFor_27 hl 2 rfl rfl ?_
  refine x_get 31 C dX11_looksFor_28 X kf_X11_109 0 rfl rfl rfl ?_
  refine x_lstore 33 C dX11_looksFor_31 [(15, .long y18.2), (13, .long y18.1), (12, .int y9), (0, .ref (h 0)), (1, .int v1), (2, .long v2), (4, .long v4), (6, .long v6), (8, .long v8), (10, .int v10), (11, .int v11)] hl rfl rfl rfl (fun ls hl => ?_)
  refine x_iconst 34 C dX11_looksFor_33 (0 : Int32) kv_iconst_0 rfl ?_
  refine x_istore 36 C dX11_looksFor_34 [(17, .int (0 : Int32)), (15, .long y18.2), (13, .long y18.1), (12, .int y9), (0, .ref (h 0)), (1, .int v1), (2, .long v2), (4, .long v4), (6, .long v6), (8, .long v8), (10, .int v10), (11, .int v11)] hl rfl rfl rfl (fun ls hl => ?_)
  refine x_iconst 37 C dX11_looksFor_36 (0 : Int32) kv_iconst_0 rfl ?_
  refine x_istore 39 C dX11_looksFor_37 [(18, .int (0 : Int32)), (17, .int (0 : Int32)), (15, .long y18.2), (13, .long y18.1), (12, .int y9), (0, .ref (h 0)), (1, .int v1), (2, .long v2), (4, .long v4), (6, .long v6), (8, .long v8), (10, .int v10), (11, .int v11)] hl rfl rfl rfl (fun ls hl => ?_)
  exact w_X11_looksFor_39 h C N x m_taped m_states m_threes m_primes m_ones m_unit m_allParts m_allNorms m_allClasses m_odd m_boxWide m_boxHigh m_boxStep m_partingMany m_qa m_qb m_la m_lb m_sa m_sb m_ta m_tb m_listed m_tells m_wanted m_found m_bits m_power2 m_rings m_ringA m_ringB m_seedNow m_tape m_has m_keptHas m_first m_second m_keptFirst m_keptSecond m_pa m_pb m_pNorm m_cubed m_isOpen m_signs m_often m_la0 m_lb0 R  N y18.1 y18.2 v1 v10 v11 y9 y18.1 y18.2 (0 : Int32) (0 : Int32) _ _ _ X (lv_sub hl [5, 6, 11, 12, 4, 3, 2, 1, 0] rfl) hf
set_option maxHeartbeats 4000000 in
set_option maxRecDepth 100000 in
theorem w_X11_root_36 {E : KE} {A : Nat → Prop} {D : va_G} {T : KT} (h : Nat → Nat) (C : kx_C E cX11_root 5 (some .int) RX11 6 167 D T) (N : Nat) (x : Int32 × Int64 × Int64 × Int64 × Int64 × Int64) (m_taped m_states m_threes m_primes m_ones m_unit : Int32) (m_allParts m_allNorms m_allClasses : Int64) (m_odd m_partingMany : Int32) (m_qa m_qb m_la m_lb m_sa m_sb m_ta m_tb : Int64) (m_listed m_tells m_wanted m_found : Int32) (m_bits : Int64) (m_power2 m_rings m_ringA m_ringB m_seedNow : Int32) (m_tape m_has m_keptHas m_first m_second m_keptFirst m_keptSecond m_pa m_pb m_pNorm m_cubed m_isOpen m_signs m_often m_la0 m_lb0 : Nat → Int32) (R : kx_RI E cX11_root D A (wM T h m_taped m_states x.2.1 x.2.2.1 m_threes m_primes m_ones m_unit m_allParts m_allNorms m_allClasses m_odd x.2.2.2.1 x.2.2.2.2.1 x.2.2.2.2.2 m_partingMany m_qa m_qb m_la m_lb m_sa m_sb m_ta m_tb m_listed m_tells m_wanted m_found m_bits m_power2 m_rings m_ringA m_ringB m_seedNow m_tape m_has m_keptHas m_first m_second m_keptFirst m_keptSecond m_pa m_pb m_pNorm m_cubed m_isOpen m_signs m_often m_la0 m_lb0) x.1) : ∀ (m_ra m_rb m_boxWide m_boxHigh m_boxStep : Int64) (v1 v2 v3 v4 : Int32) (H : Heap) (locs : List Loc) (ls : Array Slot), kx_H E D A H locs (wM T h m_taped m_states m_ra m_rb m_threes m_primes m_ones m_unit m_allParts m_allNorms m_allClasses m_odd m_boxWide m_boxHigh m_boxStep m_partingMany m_qa m_qb m_la m_lb m_sa m_sb m_ta m_tb m_listed m_tells m_wanted m_found m_bits m_power2 m_rings m_ringA m_ringB m_seedNow m_tape m_has m_keptHas m_first m_second m_keptFirst m_keptSecond m_pa m_pb m_pNorm m_cubed m_isOpen m_signs m_often m_la0 m_lb0) → lv_has ls 5 [(0, .ref (h 0)), (1, .int v1), (2, .int v2), (3, .int v3), (4, .int v4)] → f_X11_root_36 N v1 v2 v3 v4 m_ra m_rb m_boxWide m_boxHigh m_boxStep m_has m_first m_second = some x → kx_W E H locs 36 ls [] := by
  intro m_ra m_rb m_boxWide m_boxHigh m_boxStep v1 v2 v3 v4 H locs ls X hl hf
  rw [f_X11_root_36] at hf
  refine x_aload_n 37 C dX11_root_36 hl 0 rfl rfl ?_
  refine x_iload_n 38 C dX11_root_37 hl 1 rfl rfl ?_
  refine x_iload_n 39 C dX11_root_38 hl 2 rfl rfl ?_
  obtain ⟨y39, hy39, hf⟩ := kx_bind hf
  refine x_callVi0 42 C dX11_root_39 X hl kl_X11_269 (c_X11_hasBoth E.2.1 D T h v1 v2 m_taped m_states m_ra m_rb m_threes m_primes m_ones m_unit m_allParts m_allNorms m_allClasses m_odd m_boxWide m_boxHigh m_boxStep m_partingMany m_qa m_qb m_la m_lb m_sa m_sb m_ta m_tb m_listed m_tells m_wanted m_found m_bits m_power2 m_rings m_ringA m_ringB m_seedNow m_tape m_has m_keptHas m_first m_second m_keptFirst m_keptSecond m_pa m_pb m_pNorm m_cubed m_isOpen m_signs m_often m_la0 m_lb0 y39 hy39) rfl rfl [] rfl rfl rfl rfl rfl rfl (fun H locs X => ?_)
  refine x_if_ne 48 45 C dX11_root_42 rfl rfl hf (fun hf => ?_) (fun hf => ?_)
  · refine x_aload_n 49 C dX11_root_48 hl 0 rfl rfl ?_
    refine x_iload_n 50 C dX11_root_49 hl 2 rfl rfl ?_
    refine x_sipush 53 C dX11_root_50 (2000 : Int32) kv_sipush_2000 rfl ?_
    obtain ⟨y53, hy53, hf⟩ := kx_bind hf
    refine x_callVi0 56 C dX11_root_53 X hl kl_X11_331 (c_X11_isGreat E.2.1 D T h v2 (2000 : Int32) m_taped m_states m_ra m_rb m_threes m_primes m_ones m_unit m_allParts m_allNorms m_allClasses m_odd m_boxWide m_boxHigh m_boxStep m_partingMany m_qa m_qb m_la m_lb m_sa m_sb m_ta m_tb m_listed m_tells m_wanted m_found m_bits m_power2 m_rings m_ringA m_ringB m_seedNow m_tape m_has m_keptHas m_first m_second m_keptFirst m_keptSecond m_pa m_pb m_pNorm m_cubed m_isOpen m_signs m_often m_la0 m_lb0 y53 hy53) rfl rfl [] rfl rfl rfl rfl rfl rfl (fun H locs X => ?_)
    refine x_if_eq 62 59 C dX11_root_56 rfl rfl hf (fun hf => ?_) (fun hf => ?_)
    · refine x_aload_n 63 C dX11_root_62 hl 0 rfl rfl ?_
      refine x_aload_n 64 C dX11_root_63 hl 0 rfl rfl ?_
      refine x_get 67 C dX11_root_64 X kf_X11_20 0 rfl rfl rfl ?_
      refine x_iload_n 68 C dX11_root_67 hl 2 rfl rfl ?_
      refine x_iald 69 C dX11_root_68 X 4 rfl hf rfl (fun hf => ?_)
      refine x_i2l 70 C dX11_root_69 rfl ?_
      refine x_aload_n 71 C dX11_root_70 hl 0 rfl rfl ?_
      refine x_get 74 C dX11_root_71 X kf_X11_24 0 rfl rfl rfl ?_
      refine x_iload_n 75 C dX11_root_74 hl 2 rfl rfl ?_
      refine x_iald 76 C dX11_root_75 X 5 rfl hf rfl (fun hf => ?_)
      refine x_i2l 77 C dX11_root_76 rfl ?_
      obtain ⟨y77, hy77, hf⟩ := kx_bind hf
      refine x_callVv0 80 C dX11_root_77 X hl kl_X11_273 (c_X11_laysBox E.2.1 D T h N ((m_first (v2).toNatClampNeg)).toInt64 ((m_second (v2).toNatClampNeg)).toInt64 m_taped m_states m_ra m_rb m_threes m_primes m_ones m_unit m_allParts m_allNorms m_allClasses m_odd m_boxWide m_boxHigh m_boxStep m_partingMany m_qa m_qb m_la m_lb m_sa m_sb m_ta m_tb m_listed m_tells m_wanted m_found m_bits m_power2 m_rings m_ringA m_ringB m_seedNow m_tape m_has m_keptHas m_first m_second m_keptFirst m_keptSecond m_pa m_pb m_pNorm m_cubed m_isOpen m_signs m_often m_la0 m_lb0 y77 hy77) rfl rfl [] rfl rfl rfl rfl rfl rfl (fun H locs X => ?_)
      refine x_aload_n 81 C dX11_root_80 hl 0 rfl rfl ?_
      refine x_iconst 82 C dX11_root_81 (1 : Int32) kv_iconst_1 rfl ?_
      refine x_lconst 83 C dX11_root_82 (0 : Int64) kv_lconst_0 rfl ?_
      refine x_lconst 84 C dX11_root_83 (0 : Int64) kv_lconst_0 rfl ?_
      refine x_aload_n 85 C dX11_root_84 hl 0 rfl rfl ?_
      refine x_get 88 C dX11_root_85 X kf_X11_20 0 rfl rfl rfl ?_
      refine x_iload_n 89 C dX11_root_88 hl 1 rfl rfl ?_
      refine x_iald 90 C dX11_root_89 X 4 rfl hf rfl (fun hf => ?_)
      refine x_i2l 91 C dX11_root_90 rfl ?_
      refine x_aload_n 92 C dX11_root_91 hl 0 rfl rfl ?_
      refine x_get 95 C dX11_root_92 X kf_X11_24 0 rfl rfl rfl ?_
      refine x_iload_n 96 C dX11_root_95 hl 1 rfl rfl ?_
      refine x_iald 97 C dX11_root_96 X 5 rfl hf rfl (fun hf => ?_)
      refine x_i2l 98 C dX11_root_97 rfl ?_
      refine x_iload_n 99 C dX11_root_98 hl 3 rfl rfl ?_
      refine x_iload 101 C dX11_root_99 hl 4 rfl rfl ?_
      obtain ⟨y101, hy101, hf⟩ := kx_bind hf
      refine x_callVi0 104 C dX11_root_101 X hl kl_X11_342 (c_X11_looksFor E.2.1 D T h N (1 : Int32) (0 : Int64) (0 : Int64) ((m_first (v1).toNatClampNeg)).toInt64 ((m_second (v1).toNatClampNeg)).toInt64 v3 v4 m_taped m_states m_ra m_rb m_threes m_primes m_ones m_unit m_allParts m_allNorms m_allClasses m_odd y77.1 y77.2.1 y77.2.2 m_partingMany m_qa m_qb m_la m_lb m_sa m_sb m_ta m_tb m_listed m_tells m_wanted m_found m_bits m_power2 m_rings m_ringA m_ringB m_seedNow m_tape m_has m_keptHas m_first m_second m_keptFirst m_keptSecond m_pa m_pb m_pNorm m_cubed m_isOpen m_signs m_often m_la0 m_lb0 y101 hy101) rfl rfl [] rfl rfl rfl rfl rfl rfl (fun H locs X => ?_)
      obtain rfl := Option.some.inj hf
      exact R _ _ _ _ X dX11_root_104
    refine x_bipush 61 C dX11_root_59 (-3 : Int32) kv_bipush_m3 rfl ?_
    obtain rfl := Option.some.inj hf
    exact R _ _ _ _ X dX11_root_61
  refine x_bipush 47 C dX11_root_45 (-2 : Int32) kv_bipush_m2 rfl ?_
  obtain rfl := Option.some.inj hf
  exact R _ _ _ _ X dX11_root_47
set_option maxHeartbeats 4000000 in
set_option maxRecDepth 100000 in
theorem c_X11_root (l : Launch) (D : va_G) (T : KT) (h : Nat → Nat) (N : Nat) (v1 v2 v3 v4 : Int32) (m_taped m_states : Int32) (m_ra m_rb : Int64) (m_threes m_primes m_ones m_unit : Int32) (m_allParts m_allNorms m_allClasses : Int64) (m_odd : Int32) (m_boxWide m_boxHigh m_boxStep : Int64) (m_partingMany : Int32) (m_qa m_qb m_la m_lb m_sa m_sb m_ta m_tb : Int64) (m_listed m_tells m_wanted m_found : Int32) (m_bits : Int64) (m_power2 m_rings m_ringA m_ringB m_seedNow : Int32) (m_tape m_has m_keptHas m_first m_second m_keptFirst m_keptSecond m_pa m_pb m_pNorm m_cubed m_isOpen m_signs m_often m_la0 m_lb0 : Nat → Int32) (x : Int32 × Int64 × Int64 × Int64 × Int64 × Int64) (hf : f_X11_root N v1 v2 v3 v4 m_ra m_rb m_boxWide m_boxHigh m_boxStep m_has m_first m_second = some x) : kx_MI l yX11_root cX11_root 5 (some .int) 6 167 D T [.ref (h 0), .int v1, .int v2, .int v3, .int v4] (wM T h m_taped m_states m_ra m_rb m_threes m_primes m_ones m_unit m_allParts m_allNorms m_allClasses m_odd m_boxWide m_boxHigh m_boxStep m_partingMany m_qa m_qb m_la m_lb m_sa m_sb m_ta m_tb m_listed m_tells m_wanted m_found m_bits m_power2 m_rings m_ringA m_ringB m_seedNow m_tape m_has m_keptHas m_first m_second m_keptFirst m_keptSecond m_pa m_pb m_pNorm m_cubed m_isOpen m_signs m_often m_la0 m_lb0) (wM T h m_taped m_states x.2.1 x.2.2.1 m_threes m_primes m_ones m_unit m_allParts m_allNorms m_allClasses m_odd x.2.2.2.1 x.2.2.2.2.1 x.2.2.2.2.2 m_partingMany m_qa m_qb m_la m_lb m_sa m_sb m_ta m_tb m_listed m_tells m_wanted m_found m_bits m_power2 m_rings m_ringA m_ringB m_seedNow m_tape m_has m_keptHas m_first m_second m_keptFirst m_keptSecond m_pa m_pb m_pNorm m_cubed m_isOpen m_signs m_often m_la0 m_lb0) x.1 := by
  refine kx_ofMI RX11 rfl (plainFor_of_name (x := yX11_root) kpn_X11) rfl ?_
  intro E A H ls _ C X R hl
  have hl : lv_has ls 5 [(0, .ref (h 0)), (1, .int v1), (2, .int v2), (3, .int v3), (4, .int v4)] := hl
  rw [f_X11_root] at hf
  refine x_iload_n 1 C dX11_root_0 hl 1 rfl rfl ?_
  obtain ⟨y1, hy1, hf⟩ := kx_bind hf
  refine x_callSi 4 C dX11_root_1 X hl kl_X11_85 (c_X11_isDrawer E.2.1 D T  v1  y1 hy1) [] rfl rfl rfl rfl rfl cb_7 rfl (fun H locs X => ?_)
  refine x_if_eq 34 7 C dX11_root_4 rfl rfl hf (fun hf => ?_) (fun hf => ?_)
  · refine x_iconst 35 C dX11_root_34 (-1 : Int32) kv_iconst_m1 rfl ?_
    obtain rfl := Option.some.inj hf
    exact R _ _ _ _ X dX11_root_35
  refine x_iload_n 8 C dX11_root_7 hl 2 rfl rfl ?_
  obtain ⟨y8, hy8, hf⟩ := kx_bind hf
  refine x_callSi 11 C dX11_root_8 X hl kl_X11_85 (c_X11_isDrawer E.2.1 D T  v2  y8 hy8) [] rfl rfl rfl rfl rfl cb_7 rfl (fun H locs X => ?_)
  refine x_if_eq 34 14 C dX11_root_11 rfl rfl hf (fun hf => ?_) (fun hf => ?_)
  · refine x_iconst 35 C dX11_root_34 (-1 : Int32) kv_iconst_m1 rfl ?_
    obtain rfl := Option.some.inj hf
    exact R _ _ _ _ X dX11_root_35
  refine x_iload_n 15 C dX11_root_14 hl 3 rfl rfl ?_
  refine x_iconst 16 C dX11_root_15 (-1 : Int32) kv_iconst_m1 rfl ?_
  refine x_icmp_lt 34 19 C dX11_root_16 rfl rfl hf (fun hf => ?_) (fun hf => ?_)
  · refine x_iconst 35 C dX11_root_34 (-1 : Int32) kv_iconst_m1 rfl ?_
    obtain rfl := Option.some.inj hf
    exact R _ _ _ _ X dX11_root_35
  refine x_iload_n 20 C dX11_root_19 hl 3 rfl rfl ?_
  refine x_if_lt 36 23 C dX11_root_20 rfl rfl hf (fun hf => ?_) (fun hf => ?_)
  · exact w_X11_root_36 h C N x m_taped m_states m_threes m_primes m_ones m_unit m_allParts m_allNorms m_allClasses m_odd m_partingMany m_qa m_qb m_la m_lb m_sa m_sb m_ta m_tb m_listed m_tells m_wanted m_found m_bits m_power2 m_rings m_ringA m_ringB m_seedNow m_tape m_has m_keptHas m_first m_second m_keptFirst m_keptSecond m_pa m_pb m_pNorm m_cubed m_isOpen m_signs m_often m_la0 m_lb0 R  m_ra m_rb m_boxWide m_boxHigh m_boxStep v1 v2 v3 v4 _ _ _ X (lv_sub hl [0, 1, 2, 3, 4] rfl) hf
  refine x_iload 25 C dX11_root_23 hl 4 rfl rfl ?_
  refine x_i2l 26 C dX11_root_25 rfl ?_
  refine x_lconst 27 C dX11_root_26 (0 : Int64) kv_lconst_0 rfl ?_
  refine x_lconst 28 C dX11_root_27 (1 : Int64) kv_lconst_1 rfl ?_
  obtain ⟨y28, hy28, hf⟩ := kx_bind hf
  refine x_callSi 31 C dX11_root_28 X hl kl_X11_77 (c_X11_in E.2.1 D T  (v4).toInt64 (0 : Int64) (1 : Int64)  y28 hy28) [] rfl rfl rfl rfl rfl cb_7 rfl (fun H locs X => ?_)
  refine x_if_ne 36 34 C dX11_root_31 rfl rfl hf (fun hf => ?_) (fun hf => ?_)
  · exact w_X11_root_36 h C N x m_taped m_states m_threes m_primes m_ones m_unit m_allParts m_allNorms m_allClasses m_odd m_partingMany m_qa m_qb m_la m_lb m_sa m_sb m_ta m_tb m_listed m_tells m_wanted m_found m_bits m_power2 m_rings m_ringA m_ringB m_seedNow m_tape m_has m_keptHas m_first m_second m_keptFirst m_keptSecond m_pa m_pb m_pNorm m_cubed m_isOpen m_signs m_often m_la0 m_lb0 R  m_ra m_rb m_boxWide m_boxHigh m_boxStep v1 v2 v3 v4 _ _ _ X (lv_sub hl [0, 1, 2, 3, 4] rfl) hf
  refine x_iconst 35 C dX11_root_34 (-1 : Int32) kv_iconst_m1 rfl ?_
  obtain rfl := Option.some.inj hf
  exact R _ _ _ _ X dX11_root_35
set_option maxHeartbeats 4000000 in
set_option maxRecDepth 100000 in
theorem w_X10_seekResidue_p2_two_71 {E : KE} {A : Nat → Prop} {D : va_G} {T : KT} (h : Nat → Nat) (C : kx_C E cX10_seekResidue 9 (some .int) RX10 2 48 D T) (N : Nat) (x : Int32 × Int64 × Int64) (m_drawers_full m_drawers_kept : Int32) (m_drawers_partA m_drawers_partB m_drawers_keptA m_drawers_keptB m_drawers_keptFull : Nat → Int32) (m_tape_size m_tape_plain m_tape_omegas m_tape_end m_tape_place m_tape_plainTold m_tape_omegasTold : Int32) (m_tape_bytes : Nat → Int32) (m_euclid_count : Int32) (m_euclid_last_a m_euclid_last_b m_euclid_lastOfFirst_a m_euclid_lastOfFirst_b m_euclid_lastOfSecond_a m_euclid_lastOfSecond_b m_euclid_next_a m_euclid_next_b m_euclid_nextOfFirst_a m_euclid_nextOfFirst_b m_euclid_nextOfSecond_a m_euclid_nextOfSecond_b m_euclid_q_a m_euclid_q_b : Int64) (m_euclid_quotientA m_euclid_quotientB : Nat → Int64) (m_modulus_step m_modulus_width m_modulus_slant m_modulus_square_a m_modulus_square_b : Int64) (m_factors_count m_factors_threes m_factors_unit : Int32) (m_factors_primeA m_factors_primeB m_factors_norms : Nat → Int64) (m_factors_euclid_count : Int32) (m_factors_euclid_last_a m_factors_euclid_last_b m_factors_euclid_lastOfFirst_a m_factors_euclid_lastOfFirst_b m_factors_euclid_lastOfSecond_a m_factors_euclid_lastOfSecond_b m_factors_euclid_next_a m_factors_euclid_next_b m_factors_euclid_nextOfFirst_a m_factors_euclid_nextOfFirst_b m_factors_euclid_nextOfSecond_a m_factors_euclid_nextOfSecond_b m_factors_euclid_q_a m_factors_euclid_q_b : Int64) (m_factors_euclid_quotientA m_factors_euclid_quotientB : Nat → Int64) (m_factors_left_a m_factors_left_b m_factors_found_a m_factors_found_b m_factors_product_a m_factors_product_b : Int64) (m_primes_count : Int32) (m_primes_primeA m_primes_primeB : Nat → Int32) (m_primes_found_a m_primes_found_b : Int64) (m_rings_foundA m_rings_foundB m_rings_all m_rings_mostOfOneRow m_letters_count : Int32) (m_letters_bytes : Nat → Int32) (m_one_a m_one_b m_two_a m_two_b m_three_a m_three_b m_four_a m_four_b m_spare_a m_spare_b : Int64) (m_marks : Nat → Int32) (R : kx_RI E cX10_seekResidue D A (wC T h m_drawers_full m_drawers_kept m_drawers_partA m_drawers_partB m_drawers_keptA m_drawers_keptB m_drawers_keptFull m_tape_size m_tape_plain m_tape_omegas m_tape_end m_tape_place m_tape_plainTold m_tape_omegasTold m_tape_bytes m_euclid_count m_euclid_last_a m_euclid_last_b m_euclid_lastOfFirst_a m_euclid_lastOfFirst_b m_euclid_lastOfSecond_a m_euclid_lastOfSecond_b m_euclid_next_a m_euclid_next_b m_euclid_nextOfFirst_a m_euclid_nextOfFirst_b m_euclid_nextOfSecond_a m_euclid_nextOfSecond_b m_euclid_q_a m_euclid_q_b m_euclid_quotientA m_euclid_quotientB m_modulus_step m_modulus_width m_modulus_slant m_modulus_square_a m_modulus_square_b m_factors_count m_factors_threes m_factors_unit m_factors_primeA m_factors_primeB m_factors_norms m_factors_euclid_count m_factors_euclid_last_a m_factors_euclid_last_b m_factors_euclid_lastOfFirst_a m_factors_euclid_lastOfFirst_b m_factors_euclid_lastOfSecond_a m_factors_euclid_lastOfSecond_b m_factors_euclid_next_a m_factors_euclid_next_b m_factors_euclid_nextOfFirst_a m_factors_euclid_nextOfFirst_b m_factors_euclid_nextOfSecond_a m_factors_euclid_nextOfSecond_b m_factors_euclid_q_a m_factors_euclid_q_b m_factors_euclid_quotientA m_factors_euclid_quotientB m_factors_left_a m_factors_left_b m_factors_found_a m_factors_found_b m_factors_product_a m_factors_product_b m_primes_count m_primes_primeA m_primes_primeB m_primes_found_a m_primes_found_b m_rings_foundA m_rings_foundB m_rings_all m_rings_mostOfOneRow m_letters_count m_letters_bytes m_one_a m_one_b m_two_a m_two_b m_three_a m_three_b m_four_a m_four_b x.2.1 x.2.2 m_spare_a m_spare_b m_marks) x.1) (k22 : Int32 → Int32 → Int32 → Int64 → Int64 → Int64 → Int64 → Int64 → Int64 → Int64 → Int64 → Int64 → Int64 → Int64 → Option (Int32 × Int64 × Int64)) (hk22 : ∀ (m_out_a m_out_b : Int64) (v1 v3 v4 : Int32) (v5 v7 : Int64) (H : Heap) (locs : List Loc) (ls : Array Slot), kx_H E D A H locs (wC T h m_drawers_full m_drawers_kept m_drawers_partA m_drawers_partB m_drawers_keptA m_drawers_keptB m_drawers_keptFull m_tape_size m_tape_plain m_tape_omegas m_tape_end m_tape_place m_tape_plainTold m_tape_omegasTold m_tape_bytes m_euclid_count m_euclid_last_a m_euclid_last_b m_euclid_lastOfFirst_a m_euclid_lastOfFirst_b m_euclid_lastOfSecond_a m_euclid_lastOfSecond_b m_euclid_next_a m_euclid_next_b m_euclid_nextOfFirst_a m_euclid_nextOfFirst_b m_euclid_nextOfSecond_a m_euclid_nextOfSecond_b m_euclid_q_a m_euclid_q_b m_euclid_quotientA m_euclid_quotientB m_modulus_step m_modulus_width m_modulus_slant m_modulus_square_a m_modulus_square_b m_factors_count m_factors_threes m_factors_unit m_factors_primeA m_factors_primeB m_factors_norms m_factors_euclid_count m_factors_euclid_last_a m_factors_euclid_last_b m_factors_euclid_lastOfFirst_a m_factors_euclid_lastOfFirst_b m_factors_euclid_lastOfSecond_a m_factors_euclid_lastOfSecond_b m_factors_euclid_next_a m_factors_euclid_next_b m_factors_euclid_nextOfFirst_a m_factors_euclid_nextOfFirst_b m_factors_euclid_nextOfSecond_a m_factors_euclid_nextOfSecond_b m_factors_euclid_q_a m_factors_euclid_q_b m_factors_euclid_quotientA m_factors_euclid_quotientB m_factors_left_a m_factors_left_b m_factors_found_a m_factors_found_b m_factors_product_a m_factors_product_b m_primes_count m_primes_primeA m_primes_primeB m_primes_found_a m_primes_found_b m_rings_foundA m_rings_foundB m_rings_all m_rings_mostOfOneRow m_letters_count m_letters_bytes m_one_a m_one_b m_two_a m_two_b m_three_a m_three_b m_four_a m_four_b m_out_a m_out_b m_spare_a m_spare_b m_marks) → lv_has ls 9 [(0, .ref (h 0)), (1, .int v1), (2, .ref (h 46)), (3, .int v3), (4, .int v4), (5, .long v5), (7, .long v7)] → k22 v1 v3 v4 v5 v7 m_modulus_step m_modulus_width m_modulus_slant m_one_a m_one_b m_out_a m_out_b m_two_a m_two_b = some x → kx_W E H locs 22 ls []) : ∀ (m_out_a m_out_b : Int64) (v1 v3 v4 : Int32) (v5 v7 : Int64) (H : Heap) (locs : List Loc) (ls : Array Slot), kx_H E D A H locs (wC T h m_drawers_full m_drawers_kept m_drawers_partA m_drawers_partB m_drawers_keptA m_drawers_keptB m_drawers_keptFull m_tape_size m_tape_plain m_tape_omegas m_tape_end m_tape_place m_tape_plainTold m_tape_omegasTold m_tape_bytes m_euclid_count m_euclid_last_a m_euclid_last_b m_euclid_lastOfFirst_a m_euclid_lastOfFirst_b m_euclid_lastOfSecond_a m_euclid_lastOfSecond_b m_euclid_next_a m_euclid_next_b m_euclid_nextOfFirst_a m_euclid_nextOfFirst_b m_euclid_nextOfSecond_a m_euclid_nextOfSecond_b m_euclid_q_a m_euclid_q_b m_euclid_quotientA m_euclid_quotientB m_modulus_step m_modulus_width m_modulus_slant m_modulus_square_a m_modulus_square_b m_factors_count m_factors_threes m_factors_unit m_factors_primeA m_factors_primeB m_factors_norms m_factors_euclid_count m_factors_euclid_last_a m_factors_euclid_last_b m_factors_euclid_lastOfFirst_a m_factors_euclid_lastOfFirst_b m_factors_euclid_lastOfSecond_a m_factors_euclid_lastOfSecond_b m_factors_euclid_next_a m_factors_euclid_next_b m_factors_euclid_nextOfFirst_a m_factors_euclid_nextOfFirst_b m_factors_euclid_nextOfSecond_a m_factors_euclid_nextOfSecond_b m_factors_euclid_q_a m_factors_euclid_q_b m_factors_euclid_quotientA m_factors_euclid_quotientB m_factors_left_a m_factors_left_b m_factors_found_a m_factors_found_b m_factors_product_a m_factors_product_b m_primes_count m_primes_primeA m_primes_primeB m_primes_found_a m_primes_found_b m_rings_foundA m_rings_foundB m_rings_all m_rings_mostOfOneRow m_letters_count m_letters_bytes m_one_a m_one_b m_two_a m_two_b m_three_a m_three_b m_four_a m_four_b m_out_a m_out_b m_spare_a m_spare_b m_marks) → lv_has ls 9 [(0, .ref (h 0)), (1, .int v1), (2, .ref (h 46)), (3, .int v3), (4, .int v4), (5, .long v5), (7, .long v7)] → f_X10_seekResidue_71 N k22 v1 v3 v4 v5 v7 m_modulus_step m_modulus_width m_modulus_slant m_one_a m_one_b m_out_a m_out_b m_two_a m_two_b = some x → kx_W E H locs 71 ls [] := by
  intro m_out_a m_out_b v1 v3 v4 v5 v7 H locs ls X hl hf
  rw [f_X10_seekResidue_71] at hf
  refine x_aload_n 72 C dX10_seekResidue_71 hl 0 rfl rfl ?_
  refine x_get 75 C dX10_seekResidue_72 X kf_X10_35 0 rfl rfl rfl ?_
  refine x_aload_n 76 C dX10_seekResidue_75 hl 0 rfl rfl ?_
  refine x_get 79 C dX10_seekResidue_76 X kf_X10_83 0 rfl rfl rfl ?_
  obtain ⟨y79, hy79, hf⟩ := kx_bind hf
  refine x_callVv 82 C dX10_seekResidue_79 X hl kl_X10_270 (c_X4_reduce E.2.1 D T (h 19) (h 20) (h 49)  m_modulus_step m_modulus_width m_modulus_slant m_out_a m_out_b y79 hy79) rfl rfl [] rfl rfl rfl rfl rfl cb_102 rfl (fun H locs X => ?_)
  refine x_aload_n 83 C dX10_seekResidue_82 hl 0 rfl rfl ?_
  refine x_get 86 C dX10_seekResidue_83 X kf_X10_83 0 rfl rfl rfl ?_
  refine x_aload_n 87 C dX10_seekResidue_86 hl 2 rfl rfl ?_
  obtain ⟨y87, hy87, hf⟩ := kx_bind hf
  refine x_callVi 90 C dX10_seekResidue_87 X hl kl_X10_314 (c_X5_isSame E.2.1 D T (h 49) (h 46)  y79.1 y79.2 m_two_a m_two_b y87 hy87) rfl rfl [] rfl rfl rfl rfl rfl cb_57 rfl (fun H locs X => ?_)
  refine x_if_eq 118 93 C dX10_seekResidue_90 rfl rfl hf (fun hf => ?_) (fun hf => ?_)
  · refine x_lload 120 C dX10_seekResidue_118 hl 6 rfl rfl ?_
    refine x_lconst 121 C dX10_seekResidue_120 (1 : Int64) kv_lconst_1 rfl ?_
    refine x_ladd 122 C dX10_seekResidue_121 rfl ?_
    refine x_lstore 124 C dX10_seekResidue_122 [(7, .long (v7 + (1 : Int64))), (0, .ref (h 0)), (1, .int v1), (2, .ref (h 46)), (3, .int v3), (4, .int v4), (5, .long v5)] hl rfl rfl rfl (fun ls hl => ?_)
    refine x_goto 22 C dX10_seekResidue_124 rfl ?_
    exact hk22 y79.1 y79.2 v1 v3 v4 v5 (v7 + (1 : Int64)) _ _ _ X (lv_sub hl [1, 2, 3, 4, 5, 6, 0] rfl) hf
  refine x_iinc 96 C dX10_seekResidue_93 (1 : Int32) kv_iconst_1 [(4, .int (v4 + (1 : Int32))), (0, .ref (h 0)), (1, .int v1), (2, .ref (h 46)), (3, .int v3), (5, .long v5), (7, .long v7)] hl 4 rfl rfl rfl rfl (fun ls hl => ?_)
  refine x_iload 98 C dX10_seekResidue_96 hl 0 rfl rfl ?_
  refine x_iconst 99 C dX10_seekResidue_98 (1 : Int32) kv_iconst_1 rfl ?_
  refine x_isub 100 C dX10_seekResidue_99 rfl ?_
  refine x_iload_n 101 C dX10_seekResidue_100 hl 4 rfl rfl ?_
  refine x_icmp_ne 118 104 C dX10_seekResidue_101 rfl rfl hf (fun hf => ?_) (fun hf => ?_)
  · refine x_lload 120 C dX10_seekResidue_118 hl 6 rfl rfl ?_
    refine x_lconst 121 C dX10_seekResidue_120 (1 : Int64) kv_lconst_1 rfl ?_
    refine x_ladd 122 C dX10_seekResidue_121 rfl ?_
    refine x_lstore 124 C dX10_seekResidue_122 [(7, .long (v7 + (1 : Int64))), (4, .int (v4 + (1 : Int32))), (0, .ref (h 0)), (1, .int v1), (2, .ref (h 46)), (3, .int v3), (5, .long v5)] hl rfl rfl rfl (fun ls hl => ?_)
    refine x_goto 22 C dX10_seekResidue_124 rfl ?_
    exact hk22 y79.1 y79.2 v1 v3 (v4 + (1 : Int32)) v5 (v7 + (1 : Int64)) _ _ _ X (lv_sub hl [2, 3, 4, 5, 1, 6, 0] rfl) hf
  refine x_aload_n 105 C dX10_seekResidue_104 hl 1 rfl rfl ?_
  refine x_get 108 C dX10_seekResidue_105 X kf_X10_83 0 rfl rfl rfl ?_
  refine x_lload 110 C dX10_seekResidue_108 hl 6 rfl rfl ?_
  refine x_lload 112 C dX10_seekResidue_110 hl 5 rfl rfl ?_
  obtain ⟨y112, hy112, hf⟩ := kx_bind hf
  refine x_callVv 115 C dX10_seekResidue_112 X hl kl_X10_122 (c_X5_set E.2.1 D T (h 49) v7 v5 y79.1 y79.2 y112 hy112) rfl rfl [] rfl rfl rfl rfl rfl cb_64 rfl (fun H locs X => ?_)
  refine x_iload 117 C dX10_seekResidue_115 hl 0 rfl rfl ?_
  obtain rfl := Option.some.inj hf
  exact R _ _ _ _ X dX10_seekResidue_117
set_option maxHeartbeats 4000000 in
set_option maxRecDepth 100000 in
theorem w_X10_seekResidue_p2_two_22 {E : KE} {A : Nat → Prop} {D : va_G} {T : KT} (h : Nat → Nat) (C : kx_C E cX10_seekResidue 9 (some .int) RX10 2 48 D T) (N : Nat) (x : Int32 × Int64 × Int64) (m_drawers_full m_drawers_kept : Int32) (m_drawers_partA m_drawers_partB m_drawers_keptA m_drawers_keptB m_drawers_keptFull : Nat → Int32) (m_tape_size m_tape_plain m_tape_omegas m_tape_end m_tape_place m_tape_plainTold m_tape_omegasTold : Int32) (m_tape_bytes : Nat → Int32) (m_euclid_count : Int32) (m_euclid_last_a m_euclid_last_b m_euclid_lastOfFirst_a m_euclid_lastOfFirst_b m_euclid_lastOfSecond_a m_euclid_lastOfSecond_b m_euclid_next_a m_euclid_next_b m_euclid_nextOfFirst_a m_euclid_nextOfFirst_b m_euclid_nextOfSecond_a m_euclid_nextOfSecond_b m_euclid_q_a m_euclid_q_b : Int64) (m_euclid_quotientA m_euclid_quotientB : Nat → Int64) (m_modulus_step m_modulus_width m_modulus_slant m_modulus_square_a m_modulus_square_b : Int64) (m_factors_count m_factors_threes m_factors_unit : Int32) (m_factors_primeA m_factors_primeB m_factors_norms : Nat → Int64) (m_factors_euclid_count : Int32) (m_factors_euclid_last_a m_factors_euclid_last_b m_factors_euclid_lastOfFirst_a m_factors_euclid_lastOfFirst_b m_factors_euclid_lastOfSecond_a m_factors_euclid_lastOfSecond_b m_factors_euclid_next_a m_factors_euclid_next_b m_factors_euclid_nextOfFirst_a m_factors_euclid_nextOfFirst_b m_factors_euclid_nextOfSecond_a m_factors_euclid_nextOfSecond_b m_factors_euclid_q_a m_factors_euclid_q_b : Int64) (m_factors_euclid_quotientA m_factors_euclid_quotientB : Nat → Int64) (m_factors_left_a m_factors_left_b m_factors_found_a m_factors_found_b m_factors_product_a m_factors_product_b : Int64) (m_primes_count : Int32) (m_primes_primeA m_primes_primeB : Nat → Int32) (m_primes_found_a m_primes_found_b : Int64) (m_rings_foundA m_rings_foundB m_rings_all m_rings_mostOfOneRow m_letters_count : Int32) (m_letters_bytes : Nat → Int32) (m_one_a m_one_b m_two_a m_two_b m_three_a m_three_b m_four_a m_four_b m_spare_a m_spare_b : Int64) (m_marks : Nat → Int32) (R : kx_RI E cX10_seekResidue D A (wC T h m_drawers_full m_drawers_kept m_drawers_partA m_drawers_partB m_drawers_keptA m_drawers_keptB m_drawers_keptFull m_tape_size m_tape_plain m_tape_omegas m_tape_end m_tape_place m_tape_plainTold m_tape_omegasTold m_tape_bytes m_euclid_count m_euclid_last_a m_euclid_last_b m_euclid_lastOfFirst_a m_euclid_lastOfFirst_b m_euclid_lastOfSecond_a m_euclid_lastOfSecond_b m_euclid_next_a m_euclid_next_b m_euclid_nextOfFirst_a m_euclid_nextOfFirst_b m_euclid_nextOfSecond_a m_euclid_nextOfSecond_b m_euclid_q_a m_euclid_q_b m_euclid_quotientA m_euclid_quotientB m_modulus_step m_modulus_width m_modulus_slant m_modulus_square_a m_modulus_square_b m_factors_count m_factors_threes m_factors_unit m_factors_primeA m_factors_primeB m_factors_norms m_factors_euclid_count m_factors_euclid_last_a m_factors_euclid_last_b m_factors_euclid_lastOfFirst_a m_factors_euclid_lastOfFirst_b m_factors_euclid_lastOfSecond_a m_factors_euclid_lastOfSecond_b m_factors_euclid_next_a m_factors_euclid_next_b m_factors_euclid_nextOfFirst_a m_factors_euclid_nextOfFirst_b m_factors_euclid_nextOfSecond_a m_factors_euclid_nextOfSecond_b m_factors_euclid_q_a m_factors_euclid_q_b m_factors_euclid_quotientA m_factors_euclid_quotientB m_factors_left_a m_factors_left_b m_factors_found_a m_factors_found_b m_factors_product_a m_factors_product_b m_primes_count m_primes_primeA m_primes_primeB m_primes_found_a m_primes_found_b m_rings_foundA m_rings_foundB m_rings_all m_rings_mostOfOneRow m_letters_count m_letters_bytes m_one_a m_one_b m_two_a m_two_b m_three_a m_three_b m_four_a m_four_b x.2.1 x.2.2 m_spare_a m_spare_b m_marks) x.1) (k6 : Int32 → Int32 → Int32 → Int64 → Int64 → Int64 → Int64 → Int64 → Int64 → Int64 → Int64 → Int64 → Int64 → Option (Int32 × Int64 × Int64)) (hk6 : ∀ (m_out_a m_out_b : Int64) (v1 v3 v4 : Int32) (v5 : Int64) (H : Heap) (locs : List Loc) (ls : Array Slot), kx_H E D A H locs (wC T h m_drawers_full m_drawers_kept m_drawers_partA m_drawers_partB m_drawers_keptA m_drawers_keptB m_drawers_keptFull m_tape_size m_tape_plain m_tape_omegas m_tape_end m_tape_place m_tape_plainTold m_tape_omegasTold m_tape_bytes m_euclid_count m_euclid_last_a m_euclid_last_b m_euclid_lastOfFirst_a m_euclid_lastOfFirst_b m_euclid_lastOfSecond_a m_euclid_lastOfSecond_b m_euclid_next_a m_euclid_next_b m_euclid_nextOfFirst_a m_euclid_nextOfFirst_b m_euclid_nextOfSecond_a m_euclid_nextOfSecond_b m_euclid_q_a m_euclid_q_b m_euclid_quotientA m_euclid_quotientB m_modulus_step m_modulus_width m_modulus_slant m_modulus_square_a m_modulus_square_b m_factors_count m_factors_threes m_factors_unit m_factors_primeA m_factors_primeB m_factors_norms m_factors_euclid_count m_factors_euclid_last_a m_factors_euclid_last_b m_factors_euclid_lastOfFirst_a m_factors_euclid_lastOfFirst_b m_factors_euclid_lastOfSecond_a m_factors_euclid_lastOfSecond_b m_factors_euclid_next_a m_factors_euclid_next_b m_factors_euclid_nextOfFirst_a m_factors_euclid_nextOfFirst_b m_factors_euclid_nextOfSecond_a m_factors_euclid_nextOfSecond_b m_factors_euclid_q_a m_factors_euclid_q_b m_factors_euclid_quotientA m_factors_euclid_quotientB m_factors_left_a m_factors_left_b m_factors_found_a m_factors_found_b m_factors_product_a m_factors_product_b m_primes_count m_primes_primeA m_primes_primeB m_primes_found_a m_primes_found_b m_rings_foundA m_rings_foundB m_rings_all m_rings_mostOfOneRow m_letters_count m_letters_bytes m_one_a m_one_b m_two_a m_two_b m_three_a m_three_b m_four_a m_four_b m_out_a m_out_b m_spare_a m_spare_b m_marks) → lv_has ls 9 [(0, .ref (h 0)), (1, .int v1), (2, .ref (h 46)), (3, .int v3), (4, .int v4), (5, .long v5)] → k6 v1 v3 v4 v5 m_modulus_step m_modulus_width m_modulus_slant m_one_a m_one_b m_out_a m_out_b m_two_a m_two_b = some x → kx_W E H locs 6 ls []) : ∀ (k : Nat), ∀ (m_out_a m_out_b : Int64) (v1 v3 v4 : Int32) (v5 v7 : Int64) (H : Heap) (locs : List Loc) (ls : Array Slot), kx_H E D A H locs (wC T h m_drawers_full m_drawers_kept m_drawers_partA m_drawers_partB m_drawers_keptA m_drawers_keptB m_drawers_keptFull m_tape_size m_tape_plain m_tape_omegas m_tape_end m_tape_place m_tape_plainTold m_tape_omegasTold m_tape_bytes m_euclid_count m_euclid_last_a m_euclid_last_b m_euclid_lastOfFirst_a m_euclid_lastOfFirst_b m_euclid_lastOfSecond_a m_euclid_lastOfSecond_b m_euclid_next_a m_euclid_next_b m_euclid_nextOfFirst_a m_euclid_nextOfFirst_b m_euclid_nextOfSecond_a m_euclid_nextOfSecond_b m_euclid_q_a m_euclid_q_b m_euclid_quotientA m_euclid_quotientB m_modulus_step m_modulus_width m_modulus_slant m_modulus_square_a m_modulus_square_b m_factors_count m_factors_threes m_factors_unit m_factors_primeA m_factors_primeB m_factors_norms m_factors_euclid_count m_factors_euclid_last_a m_factors_euclid_last_b m_factors_euclid_lastOfFirst_a m_factors_euclid_lastOfFirst_b m_factors_euclid_lastOfSecond_a m_factors_euclid_lastOfSecond_b m_factors_euclid_next_a m_factors_euclid_next_b m_factors_euclid_nextOfFirst_a m_factors_euclid_nextOfFirst_b m_factors_euclid_nextOfSecond_a m_factors_euclid_nextOfSecond_b m_factors_euclid_q_a m_factors_euclid_q_b m_factors_euclid_quotientA m_factors_euclid_quotientB m_factors_left_a m_factors_left_b m_factors_found_a m_factors_found_b m_factors_product_a m_factors_product_b m_primes_count m_primes_primeA m_primes_primeB m_primes_found_a m_primes_found_b m_rings_foundA m_rings_foundB m_rings_all m_rings_mostOfOneRow m_letters_count m_letters_bytes m_one_a m_one_b m_two_a m_two_b m_three_a m_three_b m_four_a m_four_b m_out_a m_out_b m_spare_a m_spare_b m_marks) → lv_has ls 9 [(0, .ref (h 0)), (1, .int v1), (2, .ref (h 46)), (3, .int v3), (4, .int v4), (5, .long v5), (7, .long v7)] → f_X10_seekResidue_22 N k6 k v1 v3 v4 v5 v7 m_modulus_step m_modulus_width m_modulus_slant m_one_a m_one_b m_out_a m_out_b m_two_a m_two_b = some x → kx_W E H locs 22 ls [] := by
  intro k
  induction k with
  | zero =>
    intro m_out_a m_out_b v1 v3 v4 v5 v7 H locs ls X hl hf
    cases (show (none : Option (Int32 × Int64 × Int64)) = some x from hf)
  | succ k ih =>
    intro m_out_a m_out_b v1 v3 v4 v5 v7 H locs ls X hl hf
    rw [f_X10_seekResidue_22] at hf
    refine x_lload 24 C dX10_seekResidue_22 hl 6 rfl rfl ?_
    refine x_aload_n 25 C dX10_seekResidue_24 hl 0 rfl rfl ?_
    refine x_get 28 C dX10_seekResidue_25 X kf_X10_35 0 rfl rfl rfl ?_
    refine x_get 31 C dX10_seekResidue_28 X kf_X10_308 19 rfl rfl rfl ?_
    refine x_lcmp_ge 127 32 35 C dX10_seekResidue_31 dX10_seekResidue_32 rfl rfl rfl hf (fun hf => ?_) (fun hf => ?_)
    · refine x_lload 129 C dX10_seekResidue_127 hl 5 rfl rfl ?_
      refine x_lconst 130 C dX10_seekResidue_129 (1 : Int64) kv_lconst_1 rfl ?_
      refine x_ladd 131 C dX10_seekResidue_130 rfl ?_
      refine x_lstore 133 C dX10_seekResidue_131 [(5, .long (v5 + (1 : Int64))), (0, .ref (h 0)), (1, .int v1), (2, .ref (h 46)), (3, .int v3), (4, .int v4), (7, .long v7)] hl rfl rfl rfl (fun ls hl => ?_)
      refine x_goto 6 C dX10_seekResidue_133 rfl ?_
      exact hk6 m_out_a m_out_b v1 v3 v4 (v5 + (1 : Int64)) _ _ _ X (lv_sub hl [1, 2, 3, 4, 5, 0] rfl) hf
    refine x_aload_n 36 C dX10_seekResidue_35 hl 0 rfl rfl ?_
    refine x_get 39 C dX10_seekResidue_36 X kf_X10_83 0 rfl rfl rfl ?_
    refine x_lload 41 C dX10_seekResidue_39 hl 6 rfl rfl ?_
    refine x_lload 43 C dX10_seekResidue_41 hl 5 rfl rfl ?_
    obtain ⟨y43, hy43, hf⟩ := kx_bind hf
    refine x_callVv 46 C dX10_seekResidue_43 X hl kl_X10_122 (c_X5_set E.2.1 D T (h 49) v7 v5 m_out_a m_out_b y43 hy43) rfl rfl [] rfl rfl rfl rfl rfl cb_64 rfl (fun H locs X => ?_)
    refine x_iload_n 47 C dX10_seekResidue_46 hl 1 rfl rfl ?_
    refine x_if_eq 60 50 C dX10_seekResidue_47 rfl rfl hf (fun hf => ?_) (fun hf => ?_)
    · refine x_aload_n 61 C dX10_seekResidue_60 hl 0 rfl rfl ?_
      refine x_get 64 C dX10_seekResidue_61 X kf_X10_83 0 rfl rfl rfl ?_
      refine x_aload_n 65 C dX10_seekResidue_64 hl 0 rfl rfl ?_
      refine x_get 68 C dX10_seekResidue_65 X kf_X10_70 0 rfl rfl rfl ?_
      obtain ⟨y68, hy68, hf⟩ := kx_bind hf
      refine x_callVv 71 C dX10_seekResidue_68 X hl kl_X10_196 (c_X5_multiply E.2.1 D T (h 49) (h 45)  y43.1 y43.2 m_one_a m_one_b y68 hy68) rfl rfl [] rfl rfl rfl rfl rfl cb_56 rfl (fun H locs X => ?_)
      exact w_X10_seekResidue_p2_two_71 h C N x m_drawers_full m_drawers_kept m_drawers_partA m_drawers_partB m_drawers_keptA m_drawers_keptB m_drawers_keptFull m_tape_size m_tape_plain m_tape_omegas m_tape_end m_tape_place m_tape_plainTold m_tape_omegasTold m_tape_bytes m_euclid_count m_euclid_last_a m_euclid_last_b m_euclid_lastOfFirst_a m_euclid_lastOfFirst_b m_euclid_lastOfSecond_a m_euclid_lastOfSecond_b m_euclid_next_a m_euclid_next_b m_euclid_nextOfFirst_a m_euclid_nextOfFirst_b m_euclid_nextOfSecond_a m_euclid_nextOfSecond_b m_euclid_q_a m_euclid_q_b m_euclid_quotientA m_euclid_quotientB m_modulus_step m_modulus_width m_modulus_slant m_modulus_square_a m_modulus_square_b m_factors_count m_factors_threes m_factors_unit m_factors_primeA m_factors_primeB m_factors_norms m_factors_euclid_count m_factors_euclid_last_a m_factors_euclid_last_b m_factors_euclid_lastOfFirst_a m_factors_euclid_lastOfFirst_b m_factors_euclid_lastOfSecond_a m_factors_euclid_lastOfSecond_b m_factors_euclid_next_a m_factors_euclid_next_b m_factors_euclid_nextOfFirst_a m_factors_euclid_nextOfFirst_b m_factors_euclid_nextOfSecond_a m_factors_euclid_nextOfSecond_b m_factors_euclid_q_a m_factors_euclid_q_b m_factors_euclid_quotientA m_factors_euclid_quotientB m_factors_left_a m_factors_left_b m_factors_found_a m_factors_found_b m_factors_product_a m_factors_product_b m_primes_count m_primes_primeA m_primes_primeB m_primes_found_a m_primes_found_b m_rings_foundA m_rings_foundB m_rings_all m_rings_mostOfOneRow m_letters_count m_letters_bytes m_one_a m_one_b m_two_a m_two_b m_three_a m_three_b m_four_a m_four_b m_spare_a m_spare_b m_marks R (f_X10_seekResidue_22 N k6 k) ih y68.1 y68.2 v1 v3 v4 v5 v7 _ _ _ X (lv_sub hl [0, 1, 2, 3, 4, 5, 6] rfl) hf
    refine x_aload_n 51 C dX10_seekResidue_50 hl 0 rfl rfl ?_
    refine x_get 54 C dX10_seekResidue_51 X kf_X10_83 0 rfl rfl rfl ?_
    obtain ⟨y54, hy54, hf⟩ := kx_bind hf
    refine x_callVv 57 C dX10_seekResidue_54 X hl kl_X10_311 (c_X5_cube E.2.1 D T (h 49)  y43.1 y43.2 y54 hy54) rfl rfl [] rfl rfl rfl rfl rfl cb_64 rfl (fun H locs X => ?_)
    refine x_goto 71 C dX10_seekResidue_57 rfl ?_
    exact w_X10_seekResidue_p2_two_71 h C N x m_drawers_full m_drawers_kept m_drawers_partA m_drawers_partB m_drawers_keptA m_drawers_keptB m_drawers_keptFull m_tape_size m_tape_plain m_tape_omegas m_tape_end m_tape_place m_tape_plainTold m_tape_omegasTold m_tape_bytes m_euclid_count m_euclid_last_a m_euclid_last_b m_euclid_lastOfFirst_a m_euclid_lastOfFirst_b m_euclid_lastOfSecond_a m_euclid_lastOfSecond_b m_euclid_next_a m_euclid_next_b m_euclid_nextOfFirst_a m_euclid_nextOfFirst_b m_euclid_nextOfSecond_a m_euclid_nextOfSecond_b m_euclid_q_a m_euclid_q_b m_euclid_quotientA m_euclid_quotientB m_modulus_step m_modulus_width m_modulus_slant m_modulus_square_a m_modulus_square_b m_factors_count m_factors_threes m_factors_unit m_factors_primeA m_factors_primeB m_factors_norms m_factors_euclid_count m_factors_euclid_last_a m_factors_euclid_last_b m_factors_euclid_lastOfFirst_a m_factors_euclid_lastOfFirst_b m_factors_euclid_lastOfSecond_a m_factors_euclid_lastOfSecond_b m_factors_euclid_next_a m_factors_euclid_next_b m_factors_euclid_nextOfFirst_a m_factors_euclid_nextOfFirst_b m_factors_euclid_nextOfSecond_a m_factors_euclid_nextOfSecond_b m_factors_euclid_q_a m_factors_euclid_q_b m_factors_euclid_quotientA m_factors_euclid_quotientB m_factors_left_a m_factors_left_b m_factors_found_a m_factors_found_b m_factors_product_a m_factors_product_b m_primes_count m_primes_primeA m_primes_primeB m_primes_found_a m_primes_found_b m_rings_foundA m_rings_foundB m_rings_all m_rings_mostOfOneRow m_letters_count m_letters_bytes m_one_a m_one_b m_two_a m_two_b m_three_a m_three_b m_four_a m_four_b m_spare_a m_spare_b m_marks R (f_X10_seekResidue_22 N k6 k) ih y54.1 y54.2 v1 v3 v4 v5 v7 _ _ _ X (lv_sub hl [0, 1, 2, 3, 4, 5, 6] rfl) hf
set_option maxHeartbeats 4000000 in
set_option maxRecDepth 100000 in
theorem w_X10_seekResidue_p2_two_6 {E : KE} {A : Nat → Prop} {D : va_G} {T : KT} (h : Nat → Nat) (C : kx_C E cX10_seekResidue 9 (some .int) RX10 2 48 D T) (N : Nat) (x : Int32 × Int64 × Int64) (m_drawers_full m_drawers_kept : Int32) (m_drawers_partA m_drawers_partB m_drawers_keptA m_drawers_keptB m_drawers_keptFull : Nat → Int32) (m_tape_size m_tape_plain m_tape_omegas m_tape_end m_tape_place m_tape_plainTold m_tape_omegasTold : Int32) (m_tape_bytes : Nat → Int32) (m_euclid_count : Int32) (m_euclid_last_a m_euclid_last_b m_euclid_lastOfFirst_a m_euclid_lastOfFirst_b m_euclid_lastOfSecond_a m_euclid_lastOfSecond_b m_euclid_next_a m_euclid_next_b m_euclid_nextOfFirst_a m_euclid_nextOfFirst_b m_euclid_nextOfSecond_a m_euclid_nextOfSecond_b m_euclid_q_a m_euclid_q_b : Int64) (m_euclid_quotientA m_euclid_quotientB : Nat → Int64) (m_modulus_step m_modulus_width m_modulus_slant m_modulus_square_a m_modulus_square_b : Int64) (m_factors_count m_factors_threes m_factors_unit : Int32) (m_factors_primeA m_factors_primeB m_factors_norms : Nat → Int64) (m_factors_euclid_count : Int32) (m_factors_euclid_last_a m_factors_euclid_last_b m_factors_euclid_lastOfFirst_a m_factors_euclid_lastOfFirst_b m_factors_euclid_lastOfSecond_a m_factors_euclid_lastOfSecond_b m_factors_euclid_next_a m_factors_euclid_next_b m_factors_euclid_nextOfFirst_a m_factors_euclid_nextOfFirst_b m_factors_euclid_nextOfSecond_a m_factors_euclid_nextOfSecond_b m_factors_euclid_q_a m_factors_euclid_q_b : Int64) (m_factors_euclid_quotientA m_factors_euclid_quotientB : Nat → Int64) (m_factors_left_a m_factors_left_b m_factors_found_a m_factors_found_b m_factors_product_a m_factors_product_b : Int64) (m_primes_count : Int32) (m_primes_primeA m_primes_primeB : Nat → Int32) (m_primes_found_a m_primes_found_b : Int64) (m_rings_foundA m_rings_foundB m_rings_all m_rings_mostOfOneRow m_letters_count : Int32) (m_letters_bytes : Nat → Int32) (m_one_a m_one_b m_two_a m_two_b m_three_a m_three_b m_four_a m_four_b m_spare_a m_spare_b : Int64) (m_marks : Nat → Int32) (R : kx_RI E cX10_seekResidue D A (wC T h m_drawers_full m_drawers_kept m_drawers_partA m_drawers_partB m_drawers_keptA m_drawers_keptB m_drawers_keptFull m_tape_size m_tape_plain m_tape_omegas m_tape_end m_tape_place m_tape_plainTold m_tape_omegasTold m_tape_bytes m_euclid_count m_euclid_last_a m_euclid_last_b m_euclid_lastOfFirst_a m_euclid_lastOfFirst_b m_euclid_lastOfSecond_a m_euclid_lastOfSecond_b m_euclid_next_a m_euclid_next_b m_euclid_nextOfFirst_a m_euclid_nextOfFirst_b m_euclid_nextOfSecond_a m_euclid_nextOfSecond_b m_euclid_q_a m_euclid_q_b m_euclid_quotientA m_euclid_quotientB m_modulus_step m_modulus_width m_modulus_slant m_modulus_square_a m_modulus_square_b m_factors_count m_factors_threes m_factors_unit m_factors_primeA m_factors_primeB m_factors_norms m_factors_euclid_count m_factors_euclid_last_a m_factors_euclid_last_b m_factors_euclid_lastOfFirst_a m_factors_euclid_lastOfFirst_b m_factors_euclid_lastOfSecond_a m_factors_euclid_lastOfSecond_b m_factors_euclid_next_a m_factors_euclid_next_b m_factors_euclid_nextOfFirst_a m_factors_euclid_nextOfFirst_b m_factors_euclid_nextOfSecond_a m_factors_euclid_nextOfSecond_b m_factors_euclid_q_a m_factors_euclid_q_b m_factors_euclid_quotientA m_factors_euclid_quotientB m_factors_left_a m_factors_left_b m_factors_found_a m_factors_found_b m_factors_product_a m_factors_product_b m_primes_count m_primes_primeA m_primes_primeB m_primes_found_a m_primes_found_b m_rings_foundA m_rings_foundB m_rings_all m_rings_mostOfOneRow m_letters_count m_letters_bytes m_one_a m_one_b m_two_a m_two_b m_three_a m_three_b m_four_a m_four_b x.2.1 x.2.2 m_spare_a m_spare_b m_marks) x.1) : ∀ (k : Nat), ∀ (m_out_a m_out_b : Int64) (v1 v3 v4 : Int32) (v5 : Int64) (H : Heap) (locs : List Loc) (ls : Array Slot), kx_H E D A H locs (wC T h m_drawers_full m_drawers_kept m_drawers_partA m_drawers_partB m_drawers_keptA m_drawers_keptB m_drawers_keptFull m_tape_size m_tape_plain m_tape_omegas m_tape_end m_tape_place m_tape_plainTold m_tape_omegasTold m_tape_bytes m_euclid_count m_euclid_last_a m_euclid_last_b m_euclid_lastOfFirst_a m_euclid_lastOfFirst_b m_euclid_lastOfSecond_a m_euclid_lastOfSecond_b m_euclid_next_a m_euclid_next_b m_euclid_nextOfFirst_a m_euclid_nextOfFirst_b m_euclid_nextOfSecond_a m_euclid_nextOfSecond_b m_euclid_q_a m_euclid_q_b m_euclid_quotientA m_euclid_quotientB m_modulus_step m_modulus_width m_modulus_slant m_modulus_square_a m_modulus_square_b m_factors_count m_factors_threes m_factors_unit m_factors_primeA m_factors_primeB m_factors_norms m_factors_euclid_count m_factors_euclid_last_a m_factors_euclid_last_b m_factors_euclid_lastOfFirst_a m_factors_euclid_lastOfFirst_b m_factors_euclid_lastOfSecond_a m_factors_euclid_lastOfSecond_b m_factors_euclid_next_a m_factors_euclid_next_b m_factors_euclid_nextOfFirst_a m_factors_euclid_nextOfFirst_b m_factors_euclid_nextOfSecond_a m_factors_euclid_nextOfSecond_b m_factors_euclid_q_a m_factors_euclid_q_b m_factors_euclid_quotientA m_factors_euclid_quotientB m_factors_left_a m_factors_left_b m_factors_found_a m_factors_found_b m_factors_product_a m_factors_product_b m_primes_count m_primes_primeA m_primes_primeB m_primes_found_a m_primes_found_b m_rings_foundA m_rings_foundB m_rings_all m_rings_mostOfOneRow m_letters_count m_letters_bytes m_one_a m_one_b m_two_a m_two_b m_three_a m_three_b m_four_a m_four_b m_out_a m_out_b m_spare_a m_spare_b m_marks) → lv_has ls 9 [(0, .ref (h 0)), (1, .int v1), (2, .ref (h 46)), (3, .int v3), (4, .int v4), (5, .long v5)] → f_X10_seekResidue_6 N k v1 v3 v4 v5 m_modulus_step m_modulus_width m_modulus_slant m_one_a m_one_b m_out_a m_out_b m_two_a m_two_b = some x → kx_W E H locs 6 ls [] := by
  intro k
  induction k with
  | zero =>
    intro m_out_a m_out_b v1 v3 v4 v5 H locs ls X hl hf
    cases (show (none : Option (Int32 × Int64 × Int64)) = some x from hf)
  | succ k ih =>
    intro m_out_a m_out_b v1 v3 v4 v5 H locs ls X hl hf
    rw [f_X10_seekResidue_6] at hf
    refine x_lload 8 C dX10_seekResidue_6 hl 5 rfl rfl ?_
    refine x_aload_n 9 C dX10_seekResidue_8 hl 0 rfl rfl ?_
    refine x_get 12 C dX10_seekResidue_9 X kf_X10_35 0 rfl rfl rfl ?_
    refine x_get 15 C dX10_seekResidue_12 X kf_X10_305 19 rfl rfl rfl ?_
    refine x_lcmp_ge 136 16 19 C dX10_seekResidue_15 dX10_seekResidue_16 rfl rfl rfl hf (fun hf => ?_) (fun hf => ?_)
    · refine x_iload 138 C dX10_seekResidue_136 hl 4 rfl rfl ?_
      obtain rfl := Option.some.inj hf
      exact R _ _ _ _ X dX10_seekResidue_138
    refine x_lconst 20 C dX10_seekResidue_19 (0 : Int64) kv_lconst_0 rfl ?_
    refine x_lstore 22 C dX10_seekResidue_20 [(7, .long (0 : Int64)), (0, .ref (h 0)), (1, .int v1), (2, .ref (h 46)), (3, .int v3), (4, .int v4), (5, .long v5)] hl rfl rfl rfl (fun ls hl => ?_)
    exact w_X10_seekResidue_p2_two_22 h C N x m_drawers_full m_drawers_kept m_drawers_partA m_drawers_partB m_drawers_keptA m_drawers_keptB m_drawers_keptFull m_tape_size m_tape_plain m_tape_omegas m_tape_end m_tape_place m_tape_plainTold m_tape_omegasTold m_tape_bytes m_euclid_count m_euclid_last_a m_euclid_last_b m_euclid_lastOfFirst_a m_euclid_lastOfFirst_b m_euclid_lastOfSecond_a m_euclid_lastOfSecond_b m_euclid_next_a m_euclid_next_b m_euclid_nextOfFirst_a m_euclid_nextOfFirst_b m_euclid_nextOfSecond_a m_euclid_nextOfSecond_b m_euclid_q_a m_euclid_q_b m_euclid_quotientA m_euclid_quotientB m_modulus_step m_modulus_width m_modulus_slant m_modulus_square_a m_modulus_square_b m_factors_count m_factors_threes m_factors_unit m_factors_primeA m_factors_primeB m_factors_norms m_factors_euclid_count m_factors_euclid_last_a m_factors_euclid_last_b m_factors_euclid_lastOfFirst_a m_factors_euclid_lastOfFirst_b m_factors_euclid_lastOfSecond_a m_factors_euclid_lastOfSecond_b m_factors_euclid_next_a m_factors_euclid_next_b m_factors_euclid_nextOfFirst_a m_factors_euclid_nextOfFirst_b m_factors_euclid_nextOfSecond_a m_factors_euclid_nextOfSecond_b m_factors_euclid_q_a m_factors_euclid_q_b m_factors_euclid_quotientA m_factors_euclid_quotientB m_factors_left_a m_factors_left_b m_factors_found_a m_factors_found_b m_factors_product_a m_factors_product_b m_primes_count m_primes_primeA m_primes_primeB m_primes_found_a m_primes_found_b m_rings_foundA m_rings_foundB m_rings_all m_rings_mostOfOneRow m_letters_count m_letters_bytes m_one_a m_one_b m_two_a m_two_b m_three_a m_three_b m_four_a m_four_b m_spare_a m_spare_b m_marks R (f_X10_seekResidue_6 N k) ih N m_out_a m_out_b v1 v3 v4 v5 (0 : Int64) _ _ _ X (lv_sub hl [1, 2, 3, 4, 5, 6, 0] rfl) hf
set_option maxHeartbeats 4000000 in
set_option maxRecDepth 100000 in
theorem c_X10_seekResidue_p2_two (l : Launch) (D : va_G) (T : KT) (h : Nat → Nat) (N : Nat) (v1 v3 : Int32) (m_drawers_full m_drawers_kept : Int32) (m_drawers_partA m_drawers_partB m_drawers_keptA m_drawers_keptB m_drawers_keptFull : Nat → Int32) (m_tape_size m_tape_plain m_tape_omegas m_tape_end m_tape_place m_tape_plainTold m_tape_omegasTold : Int32) (m_tape_bytes : Nat → Int32) (m_euclid_count : Int32) (m_euclid_last_a m_euclid_last_b m_euclid_lastOfFirst_a m_euclid_lastOfFirst_b m_euclid_lastOfSecond_a m_euclid_lastOfSecond_b m_euclid_next_a m_euclid_next_b m_euclid_nextOfFirst_a m_euclid_nextOfFirst_b m_euclid_nextOfSecond_a m_euclid_nextOfSecond_b m_euclid_q_a m_euclid_q_b : Int64) (m_euclid_quotientA m_euclid_quotientB : Nat → Int64) (m_modulus_step m_modulus_width m_modulus_slant m_modulus_square_a m_modulus_square_b : Int64) (m_factors_count m_factors_threes m_factors_unit : Int32) (m_factors_primeA m_factors_primeB m_factors_norms : Nat → Int64) (m_factors_euclid_count : Int32) (m_factors_euclid_last_a m_factors_euclid_last_b m_factors_euclid_lastOfFirst_a m_factors_euclid_lastOfFirst_b m_factors_euclid_lastOfSecond_a m_factors_euclid_lastOfSecond_b m_factors_euclid_next_a m_factors_euclid_next_b m_factors_euclid_nextOfFirst_a m_factors_euclid_nextOfFirst_b m_factors_euclid_nextOfSecond_a m_factors_euclid_nextOfSecond_b m_factors_euclid_q_a m_factors_euclid_q_b : Int64) (m_factors_euclid_quotientA m_factors_euclid_quotientB : Nat → Int64) (m_factors_left_a m_factors_left_b m_factors_found_a m_factors_found_b m_factors_product_a m_factors_product_b : Int64) (m_primes_count : Int32) (m_primes_primeA m_primes_primeB : Nat → Int32) (m_primes_found_a m_primes_found_b : Int64) (m_rings_foundA m_rings_foundB m_rings_all m_rings_mostOfOneRow m_letters_count : Int32) (m_letters_bytes : Nat → Int32) (m_one_a m_one_b m_two_a m_two_b m_three_a m_three_b m_four_a m_four_b m_out_a m_out_b m_spare_a m_spare_b : Int64) (m_marks : Nat → Int32) (x : Int32 × Int64 × Int64) (hf : f_X10_seekResidue N v1 v3 m_modulus_step m_modulus_width m_modulus_slant m_one_a m_one_b m_out_a m_out_b m_two_a m_two_b = some x) : kx_MI l yX10_seekResidue cX10_seekResidue 9 (some .int) 2 48 D T [.ref (h 0), .int v1, .ref (h 46), .int v3] (wC T h m_drawers_full m_drawers_kept m_drawers_partA m_drawers_partB m_drawers_keptA m_drawers_keptB m_drawers_keptFull m_tape_size m_tape_plain m_tape_omegas m_tape_end m_tape_place m_tape_plainTold m_tape_omegasTold m_tape_bytes m_euclid_count m_euclid_last_a m_euclid_last_b m_euclid_lastOfFirst_a m_euclid_lastOfFirst_b m_euclid_lastOfSecond_a m_euclid_lastOfSecond_b m_euclid_next_a m_euclid_next_b m_euclid_nextOfFirst_a m_euclid_nextOfFirst_b m_euclid_nextOfSecond_a m_euclid_nextOfSecond_b m_euclid_q_a m_euclid_q_b m_euclid_quotientA m_euclid_quotientB m_modulus_step m_modulus_width m_modulus_slant m_modulus_square_a m_modulus_square_b m_factors_count m_factors_threes m_factors_unit m_factors_primeA m_factors_primeB m_factors_norms m_factors_euclid_count m_factors_euclid_last_a m_factors_euclid_last_b m_factors_euclid_lastOfFirst_a m_factors_euclid_lastOfFirst_b m_factors_euclid_lastOfSecond_a m_factors_euclid_lastOfSecond_b m_factors_euclid_next_a m_factors_euclid_next_b m_factors_euclid_nextOfFirst_a m_factors_euclid_nextOfFirst_b m_factors_euclid_nextOfSecond_a m_factors_euclid_nextOfSecond_b m_factors_euclid_q_a m_factors_euclid_q_b m_factors_euclid_quotientA m_factors_euclid_quotientB m_factors_left_a m_factors_left_b m_factors_found_a m_factors_found_b m_factors_product_a m_factors_product_b m_primes_count m_primes_primeA m_primes_primeB m_primes_found_a m_primes_found_b m_rings_foundA m_rings_foundB m_rings_all m_rings_mostOfOneRow m_letters_count m_letters_bytes m_one_a m_one_b m_two_a m_two_b m_three_a m_three_b m_four_a m_four_b m_out_a m_out_b m_spare_a m_spare_b m_marks) (wC T h m_drawers_full m_drawers_kept m_drawers_partA m_drawers_partB m_drawers_keptA m_drawers_keptB m_drawers_keptFull m_tape_size m_tape_plain m_tape_omegas m_tape_end m_tape_place m_tape_plainTold m_tape_omegasTold m_tape_bytes m_euclid_count m_euclid_last_a m_euclid_last_b m_euclid_lastOfFirst_a m_euclid_lastOfFirst_b m_euclid_lastOfSecond_a m_euclid_lastOfSecond_b m_euclid_next_a m_euclid_next_b m_euclid_nextOfFirst_a m_euclid_nextOfFirst_b m_euclid_nextOfSecond_a m_euclid_nextOfSecond_b m_euclid_q_a m_euclid_q_b m_euclid_quotientA m_euclid_quotientB m_modulus_step m_modulus_width m_modulus_slant m_modulus_square_a m_modulus_square_b m_factors_count m_factors_threes m_factors_unit m_factors_primeA m_factors_primeB m_factors_norms m_factors_euclid_count m_factors_euclid_last_a m_factors_euclid_last_b m_factors_euclid_lastOfFirst_a m_factors_euclid_lastOfFirst_b m_factors_euclid_lastOfSecond_a m_factors_euclid_lastOfSecond_b m_factors_euclid_next_a m_factors_euclid_next_b m_factors_euclid_nextOfFirst_a m_factors_euclid_nextOfFirst_b m_factors_euclid_nextOfSecond_a m_factors_euclid_nextOfSecond_b m_factors_euclid_q_a m_factors_euclid_q_b m_factors_euclid_quotientA m_factors_euclid_quotientB m_factors_left_a m_factors_left_b m_factors_found_a m_factors_found_b m_factors_product_a m_factors_product_b m_primes_count m_primes_primeA m_primes_primeB m_primes_found_a m_primes_found_b m_rings_foundA m_rings_foundB m_rings_all m_rings_mostOfOneRow m_letters_count m_letters_bytes m_one_a m_one_b m_two_a m_two_b m_three_a m_three_b m_four_a m_four_b x.2.1 x.2.2 m_spare_a m_spare_b m_marks) x.1 := by
  refine kx_ofMI RX10 rfl (plainFor_of_name (x := yX10_seekResidue) kpn_X10) rfl ?_
  intro E A H ls _ C X R hl
  have hl : lv_has ls 9 [(0, .ref (h 0)), (1, .int v1), (2, .ref (h 46)), (3, .int v3)] := hl
  rw [f_X10_seekResidue] at hf
  refine x_iconst 1 C dX10_seekResidue_0 (0 : Int32) kv_iconst_0 rfl ?_
  refine x_istore 3 C dX10_seekResidue_1 [(4, .int (0 : Int32)), (0, .ref (h 0)), (1, .int v1), (2, .ref (h 46)), (3, .int v3)] hl rfl rfl rfl (fun ls hl => ?_)
  refine x_lconst 4 C dX10_seekResidue_3 (0 : Int64) kv_lconst_0 rfl ?_
  refine x_lstore 6 C dX10_seekResidue_4 [(5, .long (0 : Int64)), (4, .int (0 : Int32)), (0, .ref (h 0)), (1, .int v1), (2, .ref (h 46)), (3, .int v3)] hl rfl rfl rfl (fun ls hl => ?_)
  exact w_X10_seekResidue_p2_two_6 h C N x m_drawers_full m_drawers_kept m_drawers_partA m_drawers_partB m_drawers_keptA m_drawers_keptB m_drawers_keptFull m_tape_size m_tape_plain m_tape_omegas m_tape_end m_tape_place m_tape_plainTold m_tape_omegasTold m_tape_bytes m_euclid_count m_euclid_last_a m_euclid_last_b m_euclid_lastOfFirst_a m_euclid_lastOfFirst_b m_euclid_lastOfSecond_a m_euclid_lastOfSecond_b m_euclid_next_a m_euclid_next_b m_euclid_nextOfFirst_a m_euclid_nextOfFirst_b m_euclid_nextOfSecond_a m_euclid_nextOfSecond_b m_euclid_q_a m_euclid_q_b m_euclid_quotientA m_euclid_quotientB m_modulus_step m_modulus_width m_modulus_slant m_modulus_square_a m_modulus_square_b m_factors_count m_factors_threes m_factors_unit m_factors_primeA m_factors_primeB m_factors_norms m_factors_euclid_count m_factors_euclid_last_a m_factors_euclid_last_b m_factors_euclid_lastOfFirst_a m_factors_euclid_lastOfFirst_b m_factors_euclid_lastOfSecond_a m_factors_euclid_lastOfSecond_b m_factors_euclid_next_a m_factors_euclid_next_b m_factors_euclid_nextOfFirst_a m_factors_euclid_nextOfFirst_b m_factors_euclid_nextOfSecond_a m_factors_euclid_nextOfSecond_b m_factors_euclid_q_a m_factors_euclid_q_b m_factors_euclid_quotientA m_factors_euclid_quotientB m_factors_left_a m_factors_left_b m_factors_found_a m_factors_found_b m_factors_product_a m_factors_product_b m_primes_count m_primes_primeA m_primes_primeB m_primes_found_a m_primes_found_b m_rings_foundA m_rings_foundB m_rings_all m_rings_mostOfOneRow m_letters_count m_letters_bytes m_one_a m_one_b m_two_a m_two_b m_three_a m_three_b m_four_a m_four_b m_spare_a m_spare_b m_marks R  N m_out_a m_out_b v1 v3 (0 : Int32) (0 : Int64) _ _ _ X (lv_sub hl [2, 3, 4, 5, 1, 0] rfl) hf
set_option maxHeartbeats 4000000 in
set_option maxRecDepth 100000 in
theorem c_X10_linear (l : Launch) (D : va_G) (T : KT) (h : Nat → Nat) (N : Nat) (v1 v2 v3 v4 v5 : Int32) (m_drawers_full m_drawers_kept : Int32) (m_drawers_partA m_drawers_partB m_drawers_keptA m_drawers_keptB m_drawers_keptFull : Nat → Int32) (m_tape_size m_tape_plain m_tape_omegas m_tape_end m_tape_place m_tape_plainTold m_tape_omegasTold : Int32) (m_tape_bytes : Nat → Int32) (m_euclid_count : Int32) (m_euclid_last_a m_euclid_last_b m_euclid_lastOfFirst_a m_euclid_lastOfFirst_b m_euclid_lastOfSecond_a m_euclid_lastOfSecond_b m_euclid_next_a m_euclid_next_b m_euclid_nextOfFirst_a m_euclid_nextOfFirst_b m_euclid_nextOfSecond_a m_euclid_nextOfSecond_b m_euclid_q_a m_euclid_q_b : Int64) (m_euclid_quotientA m_euclid_quotientB : Nat → Int64) (m_modulus_step m_modulus_width m_modulus_slant m_modulus_square_a m_modulus_square_b : Int64) (m_factors_count m_factors_threes m_factors_unit : Int32) (m_factors_primeA m_factors_primeB m_factors_norms : Nat → Int64) (m_factors_euclid_count : Int32) (m_factors_euclid_last_a m_factors_euclid_last_b m_factors_euclid_lastOfFirst_a m_factors_euclid_lastOfFirst_b m_factors_euclid_lastOfSecond_a m_factors_euclid_lastOfSecond_b m_factors_euclid_next_a m_factors_euclid_next_b m_factors_euclid_nextOfFirst_a m_factors_euclid_nextOfFirst_b m_factors_euclid_nextOfSecond_a m_factors_euclid_nextOfSecond_b m_factors_euclid_q_a m_factors_euclid_q_b : Int64) (m_factors_euclid_quotientA m_factors_euclid_quotientB : Nat → Int64) (m_factors_left_a m_factors_left_b m_factors_found_a m_factors_found_b m_factors_product_a m_factors_product_b : Int64) (m_primes_count : Int32) (m_primes_primeA m_primes_primeB : Nat → Int32) (m_primes_found_a m_primes_found_b : Int64) (m_rings_foundA m_rings_foundB m_rings_all m_rings_mostOfOneRow m_letters_count : Int32) (m_letters_bytes : Nat → Int32) (m_one_a m_one_b m_two_a m_two_b m_three_a m_three_b m_four_a m_four_b m_out_a m_out_b m_spare_a m_spare_b : Int64) (m_marks : Nat → Int32) (x : Int32 × Int64 × Int64 × Int64 × Int64 × Int64 × Int64 × Int64 × Int64 × Int64 × Int64 × Int64) (hf : f_X10_linear N v1 v2 v3 v4 v5 m_drawers_full m_drawers_partA m_drawers_partB m_modulus_step m_modulus_width m_modulus_slant m_one_a m_one_b m_two_a m_two_b m_three_a m_three_b m_out_a m_out_b = some x) : kx_MI l yX10_linear cX10_linear 7 (some .int) 4 114 D T [.ref (h 0), .int v1, .int v2, .int v3, .int v4, .int v5] (wC T h m_drawers_full m_drawers_kept m_drawers_partA m_drawers_partB m_drawers_keptA m_drawers_keptB m_drawers_keptFull m_tape_size m_tape_plain m_tape_omegas m_tape_end m_tape_place m_tape_plainTold m_tape_omegasTold m_tape_bytes m_euclid_count m_euclid_last_a m_euclid_last_b m_euclid_lastOfFirst_a m_euclid_lastOfFirst_b m_euclid_lastOfSecond_a m_euclid_lastOfSecond_b m_euclid_next_a m_euclid_next_b m_euclid_nextOfFirst_a m_euclid_nextOfFirst_b m_euclid_nextOfSecond_a m_euclid_nextOfSecond_b m_euclid_q_a m_euclid_q_b m_euclid_quotientA m_euclid_quotientB m_modulus_step m_modulus_width m_modulus_slant m_modulus_square_a m_modulus_square_b m_factors_count m_factors_threes m_factors_unit m_factors_primeA m_factors_primeB m_factors_norms m_factors_euclid_count m_factors_euclid_last_a m_factors_euclid_last_b m_factors_euclid_lastOfFirst_a m_factors_euclid_lastOfFirst_b m_factors_euclid_lastOfSecond_a m_factors_euclid_lastOfSecond_b m_factors_euclid_next_a m_factors_euclid_next_b m_factors_euclid_nextOfFirst_a m_factors_euclid_nextOfFirst_b m_factors_euclid_nextOfSecond_a m_factors_euclid_nextOfSecond_b m_factors_euclid_q_a m_factors_euclid_q_b m_factors_euclid_quotientA m_factors_euclid_quotientB m_factors_left_a m_factors_left_b m_factors_found_a m_factors_found_b m_factors_product_a m_factors_product_b m_primes_count m_primes_primeA m_primes_primeB m_primes_found_a m_primes_found_b m_rings_foundA m_rings_foundB m_rings_all m_rings_mostOfOneRow m_letters_count m_letters_bytes m_one_a m_one_b m_two_a m_two_b m_three_a m_three_b m_four_a m_four_b m_out_a m_out_b m_spare_a m_spare_b m_marks) (wC T h m_drawers_full m_drawers_kept m_drawers_partA m_drawers_partB m_drawers_keptA m_drawers_keptB m_drawers_keptFull m_tape_size m_tape_plain m_tape_omegas m_tape_end m_tape_place m_tape_plainTold m_tape_omegasTold m_tape_bytes m_euclid_count m_euclid_last_a m_euclid_last_b m_euclid_lastOfFirst_a m_euclid_lastOfFirst_b m_euclid_lastOfSecond_a m_euclid_lastOfSecond_b m_euclid_next_a m_euclid_next_b m_euclid_nextOfFirst_a m_euclid_nextOfFirst_b m_euclid_nextOfSecond_a m_euclid_nextOfSecond_b m_euclid_q_a m_euclid_q_b m_euclid_quotientA m_euclid_quotientB x.2.1 x.2.2.1 x.2.2.2.1 m_modulus_square_a m_modulus_square_b m_factors_count m_factors_threes m_factors_unit m_factors_primeA m_factors_primeB m_factors_norms m_factors_euclid_count m_factors_euclid_last_a m_factors_euclid_last_b m_factors_euclid_lastOfFirst_a m_factors_euclid_lastOfFirst_b m_factors_euclid_lastOfSecond_a m_factors_euclid_lastOfSecond_b m_factors_euclid_next_a m_factors_euclid_next_b m_factors_euclid_nextOfFirst_a m_factors_euclid_nextOfFirst_b m_factors_euclid_nextOfSecond_a m_factors_euclid_nextOfSecond_b m_factors_euclid_q_a m_factors_euclid_q_b m_factors_euclid_quotientA m_factors_euclid_quotientB m_factors_left_a m_factors_left_b m_factors_found_a m_factors_found_b m_factors_product_a m_factors_product_b m_primes_count m_primes_primeA m_primes_primeB m_primes_found_a m_primes_found_b m_rings_foundA m_rings_foundB m_rings_all m_rings_mostOfOneRow m_letters_count m_letters_bytes x.2.2.2.2.1 x.2.2.2.2.2.1 x.2.2.2.2.2.2.1 x.2.2.2.2.2.2.2.1 x.2.2.2.2.2.2.2.2.1 x.2.2.2.2.2.2.2.2.2.1 m_four_a m_four_b x.2.2.2.2.2.2.2.2.2.2.1 x.2.2.2.2.2.2.2.2.2.2.2 m_spare_a m_spare_b m_marks) x.1 := by
  refine kx_ofMI RX10 rfl (plainFor_of_name (x := yX10_linear) kpn_X10) rfl ?_
  intro E A H ls _ C X R hl
  have hl : lv_has ls 7 [(0, .ref (h 0)), (1, .int v1), (2, .int v2), (3, .int v3), (4, .int v4), (5, .int v5)] := hl
  rw [f_X10_linear] at hf
  refine x_iload_n 1 C dX10_linear_0 hl 3 rfl rfl ?_
  obtain ⟨y1, hy1, hf⟩ := kx_bind hf
  refine x_callSi 4 C dX10_linear_1 X hl kl_X10_105 (c_X0_isOne E.2.1 D T  v3  y1 hy1) [] rfl rfl rfl rfl rfl cb_2 rfl (fun H locs X => ?_)
  refine x_if_eq 23 7 C dX10_linear_4 rfl rfl hf (fun hf => ?_) (fun hf => ?_)
  · refine x_iconst 24 C dX10_linear_23 (-1 : Int32) kv_iconst_m1 rfl ?_
    obtain rfl := Option.some.inj hf
    exact R _ _ _ _ X dX10_linear_24
  refine x_iload 9 C dX10_linear_7 hl 4 rfl rfl ?_
  refine x_iconst 10 C dX10_linear_9 (-1 : Int32) kv_iconst_m1 rfl ?_
  refine x_icmp_lt 23 13 C dX10_linear_10 rfl rfl hf (fun hf => ?_) (fun hf => ?_)
  · refine x_iconst 24 C dX10_linear_23 (-1 : Int32) kv_iconst_m1 rfl ?_
    obtain rfl := Option.some.inj hf
    exact R _ _ _ _ X dX10_linear_24
  refine x_iload 15 C dX10_linear_13 hl 4 rfl rfl ?_
  refine x_iload 17 C dX10_linear_15 hl 5 rfl rfl ?_
  obtain ⟨y17, hy17, hf⟩ := kx_bind hf
  refine x_callSi 20 C dX10_linear_17 X hl kl_X10_298 (c_X10_isPartOf E.2.1 D T  v4 v5  y17 hy17) [] rfl rfl rfl rfl rfl cb_2 rfl (fun H locs X => ?_)
  refine x_if_ne 25 23 C dX10_linear_20 rfl rfl hf (fun hf => ?_) (fun hf => ?_)
  · refine x_aload_n 26 C dX10_linear_25 hl 0 rfl rfl ?_
    refine x_iload_n 27 C dX10_linear_26 hl 1 rfl rfl ?_
    refine x_iload_n 28 C dX10_linear_27 hl 2 rfl rfl ?_
    obtain ⟨y28, hy28, hf⟩ := kx_bind hf
    refine x_callVi0 31 C dX10_linear_28 X hl kl_X10_176 (c_X10_loadTwo E.2.1 D T h v1 v2 m_drawers_full m_drawers_kept m_drawers_partA m_drawers_partB m_drawers_keptA m_drawers_keptB m_drawers_keptFull m_tape_size m_tape_plain m_tape_omegas m_tape_end m_tape_place m_tape_plainTold m_tape_omegasTold m_tape_bytes m_euclid_count m_euclid_last_a m_euclid_last_b m_euclid_lastOfFirst_a m_euclid_lastOfFirst_b m_euclid_lastOfSecond_a m_euclid_lastOfSecond_b m_euclid_next_a m_euclid_next_b m_euclid_nextOfFirst_a m_euclid_nextOfFirst_b m_euclid_nextOfSecond_a m_euclid_nextOfSecond_b m_euclid_q_a m_euclid_q_b m_euclid_quotientA m_euclid_quotientB m_modulus_step m_modulus_width m_modulus_slant m_modulus_square_a m_modulus_square_b m_factors_count m_factors_threes m_factors_unit m_factors_primeA m_factors_primeB m_factors_norms m_factors_euclid_count m_factors_euclid_last_a m_factors_euclid_last_b m_factors_euclid_lastOfFirst_a m_factors_euclid_lastOfFirst_b m_factors_euclid_lastOfSecond_a m_factors_euclid_lastOfSecond_b m_factors_euclid_next_a m_factors_euclid_next_b m_factors_euclid_nextOfFirst_a m_factors_euclid_nextOfFirst_b m_factors_euclid_nextOfSecond_a m_factors_euclid_nextOfSecond_b m_factors_euclid_q_a m_factors_euclid_q_b m_factors_euclid_quotientA m_factors_euclid_quotientB m_factors_left_a m_factors_left_b m_factors_found_a m_factors_found_b m_factors_product_a m_factors_product_b m_primes_count m_primes_primeA m_primes_primeB m_primes_found_a m_primes_found_b m_rings_foundA m_rings_foundB m_rings_all m_rings_mostOfOneRow m_letters_count m_letters_bytes m_one_a m_one_b m_two_a m_two_b m_three_a m_three_b m_four_a m_four_b m_out_a m_out_b m_spare_a m_spare_b m_marks y28 hy28) rfl rfl [] rfl rfl rfl rfl rfl rfl (fun H locs X => ?_)
    refine x_istore 33 C dX10_linear_31 [(6, .int y28.1), (0, .ref (h 0)), (1, .int v1), (2, .int v2), (3, .int v3), (4, .int v4), (5, .int v5)] hl rfl rfl rfl (fun ls hl => ?_)
    refine x_iload 35 C dX10_linear_33 hl 0 rfl rfl ?_
    refine x_if_eq 41 38 C dX10_linear_35 rfl rfl hf (fun hf => ?_) (fun hf => ?_)
    · refine x_aload_n 42 C dX10_linear_41 hl 1 rfl rfl ?_
      refine x_get 45 C dX10_linear_42 X kf_X10_12 0 rfl rfl rfl ?_
      refine x_iload_n 46 C dX10_linear_45 hl 4 rfl rfl ?_
      obtain ⟨y46, hy46, hf⟩ := kx_bind hf
      refine x_callVi 49 C dX10_linear_46 X hl kl_X10_130 (c_X0_has E.2.1 D T (h 1) (h 2) (h 3) (h 4) (h 5) (h 6) v3 m_drawers_full m_drawers_kept y46 hy46) rfl rfl [] rfl rfl rfl rfl rfl cb_9 rfl (fun H locs X => ?_)
      refine x_if_ne 55 52 C dX10_linear_49 rfl rfl hf (fun hf => ?_) (fun hf => ?_)
      · refine x_aload_n 56 C dX10_linear_55 hl 1 rfl rfl ?_
        refine x_get 59 C dX10_linear_56 X kf_X10_12 0 rfl rfl rfl ?_
        refine x_iload_n 60 C dX10_linear_59 hl 4 rfl rfl ?_
        refine x_aload_n 61 C dX10_linear_60 hl 1 rfl rfl ?_
        refine x_get 64 C dX10_linear_61 X kf_X10_77 0 rfl rfl rfl ?_
        obtain ⟨y64, hy64, hf⟩ := kx_bind hf
        refine x_callVv 67 C dX10_linear_64 X hl kl_X10_141 (c_X0_load E.2.1 D T (h 1) (h 2) (h 3) (h 4) (h 5) (h 6) (h 47) v3 m_drawers_full m_drawers_kept m_drawers_partA m_drawers_partB m_three_a m_three_b y64 hy64) rfl rfl [] rfl rfl rfl rfl rfl cb_108 rfl (fun H locs X => ?_)
        refine x_aload_n 68 C dX10_linear_67 hl 1 rfl rfl ?_
        refine x_get 71 C dX10_linear_68 X kf_X10_35 0 rfl rfl rfl ?_
        refine x_aload_n 72 C dX10_linear_71 hl 1 rfl rfl ?_
        refine x_get 75 C dX10_linear_72 X kf_X10_77 0 rfl rfl rfl ?_
        refine x_sipush 78 C dX10_linear_75 (2000 : Int32) kv_sipush_2000 rfl ?_
        obtain ⟨y78, hy78, hf⟩ := kx_bind hf
        refine x_callVi 81 C dX10_linear_78 X hl kl_X10_287 (c_X4_openFew E.2.1 D T (h 19) (h 20) (h 47) N (2000 : Int32) m_modulus_step m_modulus_width m_modulus_slant y64.1 y64.2 y78 hy78) rfl rfl [] rfl rfl rfl rfl rfl cb_109 rfl (fun H locs X => ?_)
        refine x_if_ne 87 84 C dX10_linear_81 rfl rfl hf (fun hf => ?_) (fun hf => ?_)
        · refine x_aload_n 88 C dX10_linear_87 hl 1 rfl rfl ?_
          refine x_get 91 C dX10_linear_88 X kf_X10_35 0 rfl rfl rfl ?_
          refine x_aload_n 92 C dX10_linear_91 hl 1 rfl rfl ?_
          refine x_get 95 C dX10_linear_92 X kf_X10_70 0 rfl rfl rfl ?_
          obtain ⟨y95, hy95, hf⟩ := kx_bind hf
          refine x_callVv 98 C dX10_linear_95 X hl kl_X10_270 (c_X4_reduce E.2.1 D T (h 19) (h 20) (h 45)  y78.2.1 y78.2.2.1 y78.2.2.2 y28.2.1 y28.2.2.1 y95 hy95) rfl rfl [] rfl rfl rfl rfl rfl cb_98 rfl (fun H locs X => ?_)
          refine x_aload_n 99 C dX10_linear_98 hl 1 rfl rfl ?_
          refine x_get 102 C dX10_linear_99 X kf_X10_35 0 rfl rfl rfl ?_
          refine x_aload_n 103 C dX10_linear_102 hl 1 rfl rfl ?_
          refine x_get 106 C dX10_linear_103 X kf_X10_74 0 rfl rfl rfl ?_
          obtain ⟨y106, hy106, hf⟩ := kx_bind hf
          refine x_callVv 109 C dX10_linear_106 X hl kl_X10_270 (c_X4_reduce E.2.1 D T (h 19) (h 20) (h 46)  y78.2.1 y78.2.2.1 y78.2.2.2 y28.2.2.2.1 y28.2.2.2.2 y106 hy106) rfl rfl [] rfl rfl rfl rfl rfl cb_100 rfl (fun H locs X => ?_)
          refine x_aload_n 110 C dX10_linear_109 hl 1 rfl rfl ?_
          refine x_aload_n 111 C dX10_linear_110 hl 1 rfl rfl ?_
          refine x_iconst 112 C dX10_linear_111 (0 : Int32) kv_iconst_0 rfl ?_
          refine x_aload_n 113 C dX10_linear_112 hl 1 rfl rfl ?_
          refine x_get 116 C dX10_linear_113 X kf_X10_74 0 rfl rfl rfl ?_
          refine x_iload 118 C dX10_linear_116 hl 5 rfl rfl ?_
          obtain ⟨y118, hy118, hf⟩ := kx_bind hf
          refine x_callVi0 121 C dX10_linear_118 X hl kl_X10_294 (c_X10_seekResidue_p2_two E.2.1 D T h N (0 : Int32) v4 m_drawers_full m_drawers_kept m_drawers_partA m_drawers_partB m_drawers_keptA m_drawers_keptB m_drawers_keptFull m_tape_size m_tape_plain m_tape_omegas m_tape_end m_tape_place m_tape_plainTold m_tape_omegasTold m_tape_bytes m_euclid_count m_euclid_last_a m_euclid_last_b m_euclid_lastOfFirst_a m_euclid_lastOfFirst_b m_euclid_lastOfSecond_a m_euclid_lastOfSecond_b m_euclid_next_a m_euclid_next_b m_euclid_nextOfFirst_a m_euclid_nextOfFirst_b m_euclid_nextOfSecond_a m_euclid_nextOfSecond_b m_euclid_q_a m_euclid_q_b m_euclid_quotientA m_euclid_quotientB y78.2.1 y78.2.2.1 y78.2.2.2 m_modulus_square_a m_modulus_square_b m_factors_count m_factors_threes m_factors_unit m_factors_primeA m_factors_primeB m_factors_norms m_factors_euclid_count m_factors_euclid_last_a m_factors_euclid_last_b m_factors_euclid_lastOfFirst_a m_factors_euclid_lastOfFirst_b m_factors_euclid_lastOfSecond_a m_factors_euclid_lastOfSecond_b m_factors_euclid_next_a m_factors_euclid_next_b m_factors_euclid_nextOfFirst_a m_factors_euclid_nextOfFirst_b m_factors_euclid_nextOfSecond_a m_factors_euclid_nextOfSecond_b m_factors_euclid_q_a m_factors_euclid_q_b m_factors_euclid_quotientA m_factors_euclid_quotientB m_factors_left_a m_factors_left_b m_factors_found_a m_factors_found_b m_factors_product_a m_factors_product_b m_primes_count m_primes_primeA m_primes_primeB m_primes_found_a m_primes_found_b m_rings_foundA m_rings_foundB m_rings_all m_rings_mostOfOneRow m_letters_count m_letters_bytes y95.1 y95.2 y106.1 y106.2 y64.1 y64.2 m_four_a m_four_b m_out_a m_out_b m_spare_a m_spare_b m_marks y118 hy118) rfl rfl [.ref (h 0)] rfl rfl rfl rfl rfl rfl (fun H locs X => ?_)
          refine x_iload 123 C dX10_linear_121 hl 5 rfl rfl ?_
          refine x_iload 125 C dX10_linear_123 hl 6 rfl rfl ?_
          obtain ⟨y125, hy125, hf⟩ := kx_bind hf
          refine x_callVi0 128 C dX10_linear_125 X hl kl_X10_302 (c_X10_foundAnswer E.2.1 D T h y118.1 v4 v5 m_drawers_full m_drawers_kept m_drawers_partA m_drawers_partB m_drawers_keptA m_drawers_keptB m_drawers_keptFull m_tape_size m_tape_plain m_tape_omegas m_tape_end m_tape_place m_tape_plainTold m_tape_omegasTold m_tape_bytes m_euclid_count m_euclid_last_a m_euclid_last_b m_euclid_lastOfFirst_a m_euclid_lastOfFirst_b m_euclid_lastOfSecond_a m_euclid_lastOfSecond_b m_euclid_next_a m_euclid_next_b m_euclid_nextOfFirst_a m_euclid_nextOfFirst_b m_euclid_nextOfSecond_a m_euclid_nextOfSecond_b m_euclid_q_a m_euclid_q_b m_euclid_quotientA m_euclid_quotientB y78.2.1 y78.2.2.1 y78.2.2.2 m_modulus_square_a m_modulus_square_b m_factors_count m_factors_threes m_factors_unit m_factors_primeA m_factors_primeB m_factors_norms m_factors_euclid_count m_factors_euclid_last_a m_factors_euclid_last_b m_factors_euclid_lastOfFirst_a m_factors_euclid_lastOfFirst_b m_factors_euclid_lastOfSecond_a m_factors_euclid_lastOfSecond_b m_factors_euclid_next_a m_factors_euclid_next_b m_factors_euclid_nextOfFirst_a m_factors_euclid_nextOfFirst_b m_factors_euclid_nextOfSecond_a m_factors_euclid_nextOfSecond_b m_factors_euclid_q_a m_factors_euclid_q_b m_factors_euclid_quotientA m_factors_euclid_quotientB m_factors_left_a m_factors_left_b m_factors_found_a m_factors_found_b m_factors_product_a m_factors_product_b m_primes_count m_primes_primeA m_primes_primeB m_primes_found_a m_primes_found_b m_rings_foundA m_rings_foundB m_rings_all m_rings_mostOfOneRow m_letters_count m_letters_bytes y95.1 y95.2 y106.1 y106.2 y64.1 y64.2 m_four_a m_four_b y118.2.1 y118.2.2 m_spare_a m_spare_b m_marks y125 hy125) rfl rfl [] rfl rfl rfl rfl rfl rfl (fun H locs X => ?_)
          obtain rfl := Option.some.inj hf
          exact R _ _ _ _ X dX10_linear_128
        refine x_bipush 86 C dX10_linear_84 (-3 : Int32) kv_bipush_m3 rfl ?_
        obtain rfl := Option.some.inj hf
        exact R _ _ _ _ X dX10_linear_86
      refine x_bipush 54 C dX10_linear_52 (-2 : Int32) kv_bipush_m2 rfl ?_
      obtain rfl := Option.some.inj hf
      exact R _ _ _ _ X dX10_linear_54
    refine x_iload 40 C dX10_linear_38 hl 0 rfl rfl ?_
    obtain rfl := Option.some.inj hf
    exact R _ _ _ _ X dX10_linear_40
  refine x_iconst 24 C dX10_linear_23 (-1 : Int32) kv_iconst_m1 rfl ?_
  obtain rfl := Option.some.inj hf
  exact R _ _ _ _ X dX10_linear_24
set_option maxHeartbeats 4000000 in
set_option maxRecDepth 100000 in
theorem w_X11_linear_45 {E : KE} {A : Nat → Prop} {D : va_G} {T : KT} (h : Nat → Nat) (C : kx_C E cX11_linear 6 (some .int) RX11 6 167 D T) (N : Nat) (x : Int32 × Int64 × Int64 × Int64 × Int64 × Int64) (m_taped m_states m_threes m_primes m_ones m_unit : Int32) (m_allParts m_allNorms m_allClasses : Int64) (m_odd m_partingMany : Int32) (m_qa m_qb m_la m_lb m_sa m_sb m_ta m_tb : Int64) (m_listed m_tells m_wanted m_found : Int32) (m_bits : Int64) (m_power2 m_rings m_ringA m_ringB m_seedNow : Int32) (m_tape m_has m_keptHas m_first m_second m_keptFirst m_keptSecond m_pa m_pb m_pNorm m_cubed m_isOpen m_signs m_often m_la0 m_lb0 : Nat → Int32) (R : kx_RI E cX11_linear D A (wM T h m_taped m_states x.2.1 x.2.2.1 m_threes m_primes m_ones m_unit m_allParts m_allNorms m_allClasses m_odd x.2.2.2.1 x.2.2.2.2.1 x.2.2.2.2.2 m_partingMany m_qa m_qb m_la m_lb m_sa m_sb m_ta m_tb m_listed m_tells m_wanted m_found m_bits m_power2 m_rings m_ringA m_ringB m_seedNow m_tape m_has m_keptHas m_first m_second m_keptFirst m_keptSecond m_pa m_pb m_pNorm m_cubed m_isOpen m_signs m_often m_la0 m_lb0) x.1) : ∀ (m_ra m_rb m_boxWide m_boxHigh m_boxStep : Int64) (v1 v2 v3 v4 v5 : Int32) (H : Heap) (locs : List Loc) (ls : Array Slot), kx_H E D A H locs (wM T h m_taped m_states m_ra m_rb m_threes m_primes m_ones m_unit m_allParts m_allNorms m_allClasses m_odd m_boxWide m_boxHigh m_boxStep m_partingMany m_qa m_qb m_la m_lb m_sa m_sb m_ta m_tb m_listed m_tells m_wanted m_found m_bits m_power2 m_rings m_ringA m_ringB m_seedNow m_tape m_has m_keptHas m_first m_second m_keptFirst m_keptSecond m_pa m_pb m_pNorm m_cubed m_isOpen m_signs m_often m_la0 m_lb0) → lv_has ls 6 [(0, .ref (h 0)), (1, .int v1), (2, .int v2), (3, .int v3), (4, .int v4), (5, .int v5)] → f_X11_linear_45 N v1 v2 v3 v4 v5 m_ra m_rb m_boxWide m_boxHigh m_boxStep m_has m_first m_second = some x → kx_W E H locs 45 ls [] := by
  intro m_ra m_rb m_boxWide m_boxHigh m_boxStep v1 v2 v3 v4 v5 H locs ls X hl hf
  rw [f_X11_linear_45] at hf
  refine x_aload_n 46 C dX11_linear_45 hl 0 rfl rfl ?_
  refine x_iload_n 47 C dX11_linear_46 hl 1 rfl rfl ?_
  refine x_iload_n 48 C dX11_linear_47 hl 2 rfl rfl ?_
  obtain ⟨y48, hy48, hf⟩ := kx_bind hf
  refine x_callVi0 51 C dX11_linear_48 X hl kl_X11_269 (c_X11_hasBoth E.2.1 D T h v1 v2 m_taped m_states m_ra m_rb m_threes m_primes m_ones m_unit m_allParts m_allNorms m_allClasses m_odd m_boxWide m_boxHigh m_boxStep m_partingMany m_qa m_qb m_la m_lb m_sa m_sb m_ta m_tb m_listed m_tells m_wanted m_found m_bits m_power2 m_rings m_ringA m_ringB m_seedNow m_tape m_has m_keptHas m_first m_second m_keptFirst m_keptSecond m_pa m_pb m_pNorm m_cubed m_isOpen m_signs m_often m_la0 m_lb0 y48 hy48) rfl rfl [] rfl rfl rfl rfl rfl rfl (fun H locs X => ?_)
  refine x_if_eq 63 54 C dX11_linear_51 rfl rfl hf (fun hf => ?_) (fun hf => ?_)
  · refine x_bipush 65 C dX11_linear_63 (-2 : Int32) kv_bipush_m2 rfl ?_
    obtain rfl := Option.some.inj hf
    exact R _ _ _ _ X dX11_linear_65
  refine x_aload_n 55 C dX11_linear_54 hl 0 rfl rfl ?_
  refine x_get 58 C dX11_linear_55 X kf_X11_13 0 rfl rfl rfl ?_
  refine x_iload_n 59 C dX11_linear_58 hl 3 rfl rfl ?_
  refine x_zald 60 C dX11_linear_59 X 2 rfl hf rfl (fun hf => ?_)
  refine x_if_ne 66 63 C dX11_linear_60 rfl rfl hf (fun hf => ?_) (fun hf => ?_)
  · refine x_aload_n 67 C dX11_linear_66 hl 0 rfl rfl ?_
    refine x_iload_n 68 C dX11_linear_67 hl 3 rfl rfl ?_
    refine x_sipush 71 C dX11_linear_68 (2000 : Int32) kv_sipush_2000 rfl ?_
    obtain ⟨y71, hy71, hf⟩ := kx_bind hf
    refine x_callVi0 74 C dX11_linear_71 X hl kl_X11_331 (c_X11_isGreat E.2.1 D T h v3 (2000 : Int32) m_taped m_states m_ra m_rb m_threes m_primes m_ones m_unit m_allParts m_allNorms m_allClasses m_odd m_boxWide m_boxHigh m_boxStep m_partingMany m_qa m_qb m_la m_lb m_sa m_sb m_ta m_tb m_listed m_tells m_wanted m_found m_bits m_power2 m_rings m_ringA m_ringB m_seedNow m_tape m_has m_keptHas m_first m_second m_keptFirst m_keptSecond m_pa m_pb m_pNorm m_cubed m_isOpen m_signs m_often m_la0 m_lb0 y71 hy71) rfl rfl [] rfl rfl rfl rfl rfl rfl (fun H locs X => ?_)
    refine x_if_eq 80 77 C dX11_linear_74 rfl rfl hf (fun hf => ?_) (fun hf => ?_)
    · refine x_aload_n 81 C dX11_linear_80 hl 0 rfl rfl ?_
      refine x_aload_n 82 C dX11_linear_81 hl 0 rfl rfl ?_
      refine x_get 85 C dX11_linear_82 X kf_X11_20 0 rfl rfl rfl ?_
      refine x_iload_n 86 C dX11_linear_85 hl 3 rfl rfl ?_
      refine x_iald 87 C dX11_linear_86 X 4 rfl hf rfl (fun hf => ?_)
      refine x_i2l 88 C dX11_linear_87 rfl ?_
      refine x_aload_n 89 C dX11_linear_88 hl 0 rfl rfl ?_
      refine x_get 92 C dX11_linear_89 X kf_X11_24 0 rfl rfl rfl ?_
      refine x_iload_n 93 C dX11_linear_92 hl 3 rfl rfl ?_
      refine x_iald 94 C dX11_linear_93 X 5 rfl hf rfl (fun hf => ?_)
      refine x_i2l 95 C dX11_linear_94 rfl ?_
      obtain ⟨y95, hy95, hf⟩ := kx_bind hf
      refine x_callVv0 98 C dX11_linear_95 X hl kl_X11_273 (c_X11_laysBox E.2.1 D T h N ((m_first (v3).toNatClampNeg)).toInt64 ((m_second (v3).toNatClampNeg)).toInt64 m_taped m_states m_ra m_rb m_threes m_primes m_ones m_unit m_allParts m_allNorms m_allClasses m_odd m_boxWide m_boxHigh m_boxStep m_partingMany m_qa m_qb m_la m_lb m_sa m_sb m_ta m_tb m_listed m_tells m_wanted m_found m_bits m_power2 m_rings m_ringA m_ringB m_seedNow m_tape m_has m_keptHas m_first m_second m_keptFirst m_keptSecond m_pa m_pb m_pNorm m_cubed m_isOpen m_signs m_often m_la0 m_lb0 y95 hy95) rfl rfl [] rfl rfl rfl rfl rfl rfl (fun H locs X => ?_)
      refine x_aload_n 99 C dX11_linear_98 hl 0 rfl rfl ?_
      refine x_iconst 100 C dX11_linear_99 (0 : Int32) kv_iconst_0 rfl ?_
      refine x_aload_n 101 C dX11_linear_100 hl 0 rfl rfl ?_
      refine x_get 104 C dX11_linear_101 X kf_X11_20 0 rfl rfl rfl ?_
      refine x_iload_n 105 C dX11_linear_104 hl 1 rfl rfl ?_
      refine x_iald 106 C dX11_linear_105 X 4 rfl hf rfl (fun hf => ?_)
      refine x_i2l 107 C dX11_linear_106 rfl ?_
      refine x_aload_n 108 C dX11_linear_107 hl 0 rfl rfl ?_
      refine x_get 111 C dX11_linear_108 X kf_X11_24 0 rfl rfl rfl ?_
      refine x_iload_n 112 C dX11_linear_111 hl 1 rfl rfl ?_
      refine x_iald 113 C dX11_linear_112 X 5 rfl hf rfl (fun hf => ?_)
      refine x_i2l 114 C dX11_linear_113 rfl ?_
      refine x_aload_n 115 C dX11_linear_114 hl 0 rfl rfl ?_
      refine x_get 118 C dX11_linear_115 X kf_X11_20 0 rfl rfl rfl ?_
      refine x_iload_n 119 C dX11_linear_118 hl 2 rfl rfl ?_
      refine x_iald 120 C dX11_linear_119 X 4 rfl hf rfl (fun hf => ?_)
      refine x_i2l 121 C dX11_linear_120 rfl ?_
      refine x_aload_n 122 C dX11_linear_121 hl 0 rfl rfl ?_
      refine x_get 125 C dX11_linear_122 X kf_X11_24 0 rfl rfl rfl ?_
      refine x_iload_n 126 C dX11_linear_125 hl 2 rfl rfl ?_
      refine x_iald 127 C dX11_linear_126 X 5 rfl hf rfl (fun hf => ?_)
      refine x_i2l 128 C dX11_linear_127 rfl ?_
      refine x_iload 130 C dX11_linear_128 hl 4 rfl rfl ?_
      refine x_iload 132 C dX11_linear_130 hl 5 rfl rfl ?_
      obtain ⟨y132, hy132, hf⟩ := kx_bind hf
      refine x_callVi0 135 C dX11_linear_132 X hl kl_X11_342 (c_X11_looksFor E.2.1 D T h N (0 : Int32) ((m_first (v1).toNatClampNeg)).toInt64 ((m_second (v1).toNatClampNeg)).toInt64 ((m_first (v2).toNatClampNeg)).toInt64 ((m_second (v2).toNatClampNeg)).toInt64 v4 v5 m_taped m_states m_ra m_rb m_threes m_primes m_ones m_unit m_allParts m_allNorms m_allClasses m_odd y95.1 y95.2.1 y95.2.2 m_partingMany m_qa m_qb m_la m_lb m_sa m_sb m_ta m_tb m_listed m_tells m_wanted m_found m_bits m_power2 m_rings m_ringA m_ringB m_seedNow m_tape m_has m_keptHas m_first m_second m_keptFirst m_keptSecond m_pa m_pb m_pNorm m_cubed m_isOpen m_signs m_often m_la0 m_lb0 y132 hy132) rfl rfl [] rfl rfl rfl rfl rfl rfl (fun H locs X => ?_)
      obtain rfl := Option.some.inj hf
      exact R _ _ _ _ X dX11_linear_135
    refine x_bipush 79 C dX11_linear_77 (-3 : Int32) kv_bipush_m3 rfl ?_
    obtain rfl := Option.some.inj hf
    exact R _ _ _ _ X dX11_linear_79
  refine x_bipush 65 C dX11_linear_63 (-2 : Int32) kv_bipush_m2 rfl ?_
  obtain rfl := Option.some.inj hf
  exact R _ _ _ _ X dX11_linear_65
set_option maxHeartbeats 4000000 in
set_option maxRecDepth 100000 in
theorem c_X11_linear (l : Launch) (D : va_G) (T : KT) (h : Nat → Nat) (N : Nat) (v1 v2 v3 v4 v5 : Int32) (m_taped m_states : Int32) (m_ra m_rb : Int64) (m_threes m_primes m_ones m_unit : Int32) (m_allParts m_allNorms m_allClasses : Int64) (m_odd : Int32) (m_boxWide m_boxHigh m_boxStep : Int64) (m_partingMany : Int32) (m_qa m_qb m_la m_lb m_sa m_sb m_ta m_tb : Int64) (m_listed m_tells m_wanted m_found : Int32) (m_bits : Int64) (m_power2 m_rings m_ringA m_ringB m_seedNow : Int32) (m_tape m_has m_keptHas m_first m_second m_keptFirst m_keptSecond m_pa m_pb m_pNorm m_cubed m_isOpen m_signs m_often m_la0 m_lb0 : Nat → Int32) (x : Int32 × Int64 × Int64 × Int64 × Int64 × Int64) (hf : f_X11_linear N v1 v2 v3 v4 v5 m_ra m_rb m_boxWide m_boxHigh m_boxStep m_has m_first m_second = some x) : kx_MI l yX11_linear cX11_linear 6 (some .int) 6 167 D T [.ref (h 0), .int v1, .int v2, .int v3, .int v4, .int v5] (wM T h m_taped m_states m_ra m_rb m_threes m_primes m_ones m_unit m_allParts m_allNorms m_allClasses m_odd m_boxWide m_boxHigh m_boxStep m_partingMany m_qa m_qb m_la m_lb m_sa m_sb m_ta m_tb m_listed m_tells m_wanted m_found m_bits m_power2 m_rings m_ringA m_ringB m_seedNow m_tape m_has m_keptHas m_first m_second m_keptFirst m_keptSecond m_pa m_pb m_pNorm m_cubed m_isOpen m_signs m_often m_la0 m_lb0) (wM T h m_taped m_states x.2.1 x.2.2.1 m_threes m_primes m_ones m_unit m_allParts m_allNorms m_allClasses m_odd x.2.2.2.1 x.2.2.2.2.1 x.2.2.2.2.2 m_partingMany m_qa m_qb m_la m_lb m_sa m_sb m_ta m_tb m_listed m_tells m_wanted m_found m_bits m_power2 m_rings m_ringA m_ringB m_seedNow m_tape m_has m_keptHas m_first m_second m_keptFirst m_keptSecond m_pa m_pb m_pNorm m_cubed m_isOpen m_signs m_often m_la0 m_lb0) x.1 := by
  refine kx_ofMI RX11 rfl (plainFor_of_name (x := yX11_linear) kpn_X11) rfl ?_
  intro E A H ls _ C X R hl
  have hl : lv_has ls 6 [(0, .ref (h 0)), (1, .int v1), (2, .int v2), (3, .int v3), (4, .int v4), (5, .int v5)] := hl
  rw [f_X11_linear] at hf
  refine x_iload_n 1 C dX11_linear_0 hl 1 rfl rfl ?_
  obtain ⟨y1, hy1, hf⟩ := kx_bind hf
  refine x_callSi 4 C dX11_linear_1 X hl kl_X11_85 (c_X11_isDrawer E.2.1 D T  v1  y1 hy1) [] rfl rfl rfl rfl rfl cb_7 rfl (fun H locs X => ?_)
  refine x_if_eq 43 7 C dX11_linear_4 rfl rfl hf (fun hf => ?_) (fun hf => ?_)
  · refine x_iconst 44 C dX11_linear_43 (-1 : Int32) kv_iconst_m1 rfl ?_
    obtain rfl := Option.some.inj hf
    exact R _ _ _ _ X dX11_linear_44
  refine x_iload_n 8 C dX11_linear_7 hl 2 rfl rfl ?_
  obtain ⟨y8, hy8, hf⟩ := kx_bind hf
  refine x_callSi 11 C dX11_linear_8 X hl kl_X11_85 (c_X11_isDrawer E.2.1 D T  v2  y8 hy8) [] rfl rfl rfl rfl rfl cb_7 rfl (fun H locs X => ?_)
  refine x_if_eq 43 14 C dX11_linear_11 rfl rfl hf (fun hf => ?_) (fun hf => ?_)
  · refine x_iconst 44 C dX11_linear_43 (-1 : Int32) kv_iconst_m1 rfl ?_
    obtain rfl := Option.some.inj hf
    exact R _ _ _ _ X dX11_linear_44
  refine x_iload_n 15 C dX11_linear_14 hl 3 rfl rfl ?_
  obtain ⟨y15, hy15, hf⟩ := kx_bind hf
  refine x_callSi 18 C dX11_linear_15 X hl kl_X11_85 (c_X11_isDrawer E.2.1 D T  v3  y15 hy15) [] rfl rfl rfl rfl rfl cb_7 rfl (fun H locs X => ?_)
  refine x_if_eq 43 21 C dX11_linear_18 rfl rfl hf (fun hf => ?_) (fun hf => ?_)
  · refine x_iconst 44 C dX11_linear_43 (-1 : Int32) kv_iconst_m1 rfl ?_
    obtain rfl := Option.some.inj hf
    exact R _ _ _ _ X dX11_linear_44
  refine x_iload 23 C dX11_linear_21 hl 4 rfl rfl ?_
  refine x_iconst 24 C dX11_linear_23 (-1 : Int32) kv_iconst_m1 rfl ?_
  refine x_icmp_lt 43 27 C dX11_linear_24 rfl rfl hf (fun hf => ?_) (fun hf => ?_)
  · refine x_iconst 44 C dX11_linear_43 (-1 : Int32) kv_iconst_m1 rfl ?_
    obtain rfl := Option.some.inj hf
    exact R _ _ _ _ X dX11_linear_44
  refine x_iload 29 C dX11_linear_27 hl 4 rfl rfl ?_
  refine x_if_lt 45 32 C dX11_linear_29 rfl rfl hf (fun hf => ?_) (fun hf => ?_)
  · exact w_X11_linear_45 h C N x m_taped m_states m_threes m_primes m_ones m_unit m_allParts m_allNorms m_allClasses m_odd m_partingMany m_qa m_qb m_la m_lb m_sa m_sb m_ta m_tb m_listed m_tells m_wanted m_found m_bits m_power2 m_rings m_ringA m_ringB m_seedNow m_tape m_has m_keptHas m_first m_second m_keptFirst m_keptSecond m_pa m_pb m_pNorm m_cubed m_isOpen m_signs m_often m_la0 m_lb0 R  m_ra m_rb m_boxWide m_boxHigh m_boxStep v1 v2 v3 v4 v5 _ _ _ X (lv_sub hl [0, 1, 2, 3, 4, 5] rfl) hf
  refine x_iload 34 C dX11_linear_32 hl 5 rfl rfl ?_
  refine x_i2l 35 C dX11_linear_34 rfl ?_
  refine x_lconst 36 C dX11_linear_35 (0 : Int64) kv_lconst_0 rfl ?_
  refine x_lconst 37 C dX11_linear_36 (1 : Int64) kv_lconst_1 rfl ?_
  obtain ⟨y37, hy37, hf⟩ := kx_bind hf
  refine x_callSi 40 C dX11_linear_37 X hl kl_X11_77 (c_X11_in E.2.1 D T  (v5).toInt64 (0 : Int64) (1 : Int64)  y37 hy37) [] rfl rfl rfl rfl rfl cb_7 rfl (fun H locs X => ?_)
  refine x_if_ne 45 43 C dX11_linear_40 rfl rfl hf (fun hf => ?_) (fun hf => ?_)
  · exact w_X11_linear_45 h C N x m_taped m_states m_threes m_primes m_ones m_unit m_allParts m_allNorms m_allClasses m_odd m_partingMany m_qa m_qb m_la m_lb m_sa m_sb m_ta m_tb m_listed m_tells m_wanted m_found m_bits m_power2 m_rings m_ringA m_ringB m_seedNow m_tape m_has m_keptHas m_first m_second m_keptFirst m_keptSecond m_pa m_pb m_pNorm m_cubed m_isOpen m_signs m_often m_la0 m_lb0 R  m_ra m_rb m_boxWide m_boxHigh m_boxStep v1 v2 v3 v4 v5 _ _ _ X (lv_sub hl [0, 1, 2, 3, 4, 5] rfl) hf
  refine x_iconst 44 C dX11_linear_43 (-1 : Int32) kv_iconst_m1 rfl ?_
  obtain rfl := Option.some.inj hf
  exact R _ _ _ _ X dX11_linear_44
set_option maxHeartbeats 4000000 in
set_option maxRecDepth 100000 in
theorem c_X4_place (l : Launch) (D : va_G) (T : KT) (h0 h1 h2 : Nat)  (m_step m_width m_slant m_p1_a m_p1_b : Int64) (x : Int32) (hf : f_X4_place m_width m_p1_a m_p1_b = some x) : kx_MI l yX4_place cX4_place 2 (some .int) 0 0 D T [.ref h0, .ref h2] (w37_X4 T h0 h1 h2 m_step m_width m_slant m_p1_a m_p1_b) (w37_X4 T h0 h1 h2 m_step m_width m_slant m_p1_a m_p1_b) x := by
  refine kx_ofMI RX4 rfl (plainFor_of_name (x := yX4_place) kpn_X4) rfl ?_
  intro E A H ls _ C X R hl
  have hl : lv_has ls 2 [(0, .ref h0), (1, .ref h2)] := hl
  rw [f_X4_place] at hf
  refine x_aload_n 1 C dX4_place_0 hl 1 rfl rfl ?_
  refine x_get 4 C dX4_place_1 X kf_X4_26 1 rfl rfl rfl ?_
  refine x_aload_n 5 C dX4_place_4 hl 0 rfl rfl ?_
  refine x_get 8 C dX4_place_5 X kf_X4_13 0 rfl rfl rfl ?_
  refine x_lmul 9 C dX4_place_8 rfl ?_
  refine x_aload_n 10 C dX4_place_9 hl 1 rfl rfl ?_
  refine x_get 13 C dX4_place_10 X kf_X4_23 1 rfl rfl rfl ?_
  refine x_ladd 14 C dX4_place_13 rfl ?_
  refine x_l2i 15 C dX4_place_14 rfl ?_
  obtain rfl := Option.some.inj hf
  exact R _ _ _ _ X dX4_place_15
set_option maxHeartbeats 4000000 in
set_option maxRecDepth 100000 in
theorem c_X10_markAt (l : Launch) (D : va_G) (T : KT) (h : Nat → Nat) (v1 : Int32) (m_drawers_full m_drawers_kept : Int32) (m_drawers_partA m_drawers_partB m_drawers_keptA m_drawers_keptB m_drawers_keptFull : Nat → Int32) (m_tape_size m_tape_plain m_tape_omegas m_tape_end m_tape_place m_tape_plainTold m_tape_omegasTold : Int32) (m_tape_bytes : Nat → Int32) (m_euclid_count : Int32) (m_euclid_last_a m_euclid_last_b m_euclid_lastOfFirst_a m_euclid_lastOfFirst_b m_euclid_lastOfSecond_a m_euclid_lastOfSecond_b m_euclid_next_a m_euclid_next_b m_euclid_nextOfFirst_a m_euclid_nextOfFirst_b m_euclid_nextOfSecond_a m_euclid_nextOfSecond_b m_euclid_q_a m_euclid_q_b : Int64) (m_euclid_quotientA m_euclid_quotientB : Nat → Int64) (m_modulus_step m_modulus_width m_modulus_slant m_modulus_square_a m_modulus_square_b : Int64) (m_factors_count m_factors_threes m_factors_unit : Int32) (m_factors_primeA m_factors_primeB m_factors_norms : Nat → Int64) (m_factors_euclid_count : Int32) (m_factors_euclid_last_a m_factors_euclid_last_b m_factors_euclid_lastOfFirst_a m_factors_euclid_lastOfFirst_b m_factors_euclid_lastOfSecond_a m_factors_euclid_lastOfSecond_b m_factors_euclid_next_a m_factors_euclid_next_b m_factors_euclid_nextOfFirst_a m_factors_euclid_nextOfFirst_b m_factors_euclid_nextOfSecond_a m_factors_euclid_nextOfSecond_b m_factors_euclid_q_a m_factors_euclid_q_b : Int64) (m_factors_euclid_quotientA m_factors_euclid_quotientB : Nat → Int64) (m_factors_left_a m_factors_left_b m_factors_found_a m_factors_found_b m_factors_product_a m_factors_product_b : Int64) (m_primes_count : Int32) (m_primes_primeA m_primes_primeB : Nat → Int32) (m_primes_found_a m_primes_found_b : Int64) (m_rings_foundA m_rings_foundB m_rings_all m_rings_mostOfOneRow m_letters_count : Int32) (m_letters_bytes : Nat → Int32) (m_one_a m_one_b m_two_a m_two_b m_three_a m_three_b m_four_a m_four_b m_out_a m_out_b m_spare_a m_spare_b : Int64) (m_marks : Nat → Int32) (x : Int32) (hf : f_X10_markAt v1 m_marks = some x) : kx_MI l yX10_markAt cX10_markAt 2 (some .int) 0 0 D T [.ref (h 0), .int v1] (wC T h m_drawers_full m_drawers_kept m_drawers_partA m_drawers_partB m_drawers_keptA m_drawers_keptB m_drawers_keptFull m_tape_size m_tape_plain m_tape_omegas m_tape_end m_tape_place m_tape_plainTold m_tape_omegasTold m_tape_bytes m_euclid_count m_euclid_last_a m_euclid_last_b m_euclid_lastOfFirst_a m_euclid_lastOfFirst_b m_euclid_lastOfSecond_a m_euclid_lastOfSecond_b m_euclid_next_a m_euclid_next_b m_euclid_nextOfFirst_a m_euclid_nextOfFirst_b m_euclid_nextOfSecond_a m_euclid_nextOfSecond_b m_euclid_q_a m_euclid_q_b m_euclid_quotientA m_euclid_quotientB m_modulus_step m_modulus_width m_modulus_slant m_modulus_square_a m_modulus_square_b m_factors_count m_factors_threes m_factors_unit m_factors_primeA m_factors_primeB m_factors_norms m_factors_euclid_count m_factors_euclid_last_a m_factors_euclid_last_b m_factors_euclid_lastOfFirst_a m_factors_euclid_lastOfFirst_b m_factors_euclid_lastOfSecond_a m_factors_euclid_lastOfSecond_b m_factors_euclid_next_a m_factors_euclid_next_b m_factors_euclid_nextOfFirst_a m_factors_euclid_nextOfFirst_b m_factors_euclid_nextOfSecond_a m_factors_euclid_nextOfSecond_b m_factors_euclid_q_a m_factors_euclid_q_b m_factors_euclid_quotientA m_factors_euclid_quotientB m_factors_left_a m_factors_left_b m_factors_found_a m_factors_found_b m_factors_product_a m_factors_product_b m_primes_count m_primes_primeA m_primes_primeB m_primes_found_a m_primes_found_b m_rings_foundA m_rings_foundB m_rings_all m_rings_mostOfOneRow m_letters_count m_letters_bytes m_one_a m_one_b m_two_a m_two_b m_three_a m_three_b m_four_a m_four_b m_out_a m_out_b m_spare_a m_spare_b m_marks) (wC T h m_drawers_full m_drawers_kept m_drawers_partA m_drawers_partB m_drawers_keptA m_drawers_keptB m_drawers_keptFull m_tape_size m_tape_plain m_tape_omegas m_tape_end m_tape_place m_tape_plainTold m_tape_omegasTold m_tape_bytes m_euclid_count m_euclid_last_a m_euclid_last_b m_euclid_lastOfFirst_a m_euclid_lastOfFirst_b m_euclid_lastOfSecond_a m_euclid_lastOfSecond_b m_euclid_next_a m_euclid_next_b m_euclid_nextOfFirst_a m_euclid_nextOfFirst_b m_euclid_nextOfSecond_a m_euclid_nextOfSecond_b m_euclid_q_a m_euclid_q_b m_euclid_quotientA m_euclid_quotientB m_modulus_step m_modulus_width m_modulus_slant m_modulus_square_a m_modulus_square_b m_factors_count m_factors_threes m_factors_unit m_factors_primeA m_factors_primeB m_factors_norms m_factors_euclid_count m_factors_euclid_last_a m_factors_euclid_last_b m_factors_euclid_lastOfFirst_a m_factors_euclid_lastOfFirst_b m_factors_euclid_lastOfSecond_a m_factors_euclid_lastOfSecond_b m_factors_euclid_next_a m_factors_euclid_next_b m_factors_euclid_nextOfFirst_a m_factors_euclid_nextOfFirst_b m_factors_euclid_nextOfSecond_a m_factors_euclid_nextOfSecond_b m_factors_euclid_q_a m_factors_euclid_q_b m_factors_euclid_quotientA m_factors_euclid_quotientB m_factors_left_a m_factors_left_b m_factors_found_a m_factors_found_b m_factors_product_a m_factors_product_b m_primes_count m_primes_primeA m_primes_primeB m_primes_found_a m_primes_found_b m_rings_foundA m_rings_foundB m_rings_all m_rings_mostOfOneRow m_letters_count m_letters_bytes m_one_a m_one_b m_two_a m_two_b m_three_a m_three_b m_four_a m_four_b m_out_a m_out_b m_spare_a m_spare_b m_marks) x := by
  refine kx_ofMI RX10 rfl (plainFor_of_name (x := yX10_markAt) kpn_X10) rfl ?_
  intro E A H ls _ C X R hl
  have hl : lv_has ls 2 [(0, .ref (h 0)), (1, .int v1)] := hl
  rw [f_X10_markAt] at hf
  refine x_iload_n 1 C dX10_markAt_0 hl 1 rfl rfl ?_
  refine x_if_lt 22 4 C dX10_markAt_1 rfl rfl hf (fun hf => ?_) (fun hf => ?_)
  · refine x_iconst 23 C dX10_markAt_22 (0 : Int32) kv_iconst_0 rfl ?_
    obtain rfl := Option.some.inj hf
    exact R _ _ _ _ X dX10_markAt_23
  refine x_iload_n 5 C dX10_markAt_4 hl 1 rfl rfl ?_
  refine x_aload_n 6 C dX10_markAt_5 hl 0 rfl rfl ?_
  refine x_get 9 C dX10_markAt_6 X kf_X10_89 0 rfl rfl rfl ?_
  refine x_alen 10 C dX10_markAt_9 X 51 0 rfl rfl (2000 : Int32) kn_2000 rfl ?_
  refine x_icmp_ge 22 13 C dX10_markAt_10 rfl rfl hf (fun hf => ?_) (fun hf => ?_)
  · refine x_iconst 23 C dX10_markAt_22 (0 : Int32) kv_iconst_0 rfl ?_
    obtain rfl := Option.some.inj hf
    exact R _ _ _ _ X dX10_markAt_23
  refine x_aload_n 14 C dX10_markAt_13 hl 0 rfl rfl ?_
  refine x_get 17 C dX10_markAt_14 X kf_X10_89 0 rfl rfl rfl ?_
  refine x_iload_n 18 C dX10_markAt_17 hl 1 rfl rfl ?_
  refine x_iald 19 C dX10_markAt_18 X 51 rfl hf rfl (fun hf => ?_)
  refine x_goto 23 C dX10_markAt_19 rfl ?_
  obtain rfl := Option.some.inj hf
  exact R _ _ _ _ X dX10_markAt_23
set_option maxHeartbeats 4000000 in
set_option maxRecDepth 100000 in
theorem c_X10_mark (l : Launch) (D : va_G) (T : KT) (h : Nat → Nat) (v1 v2 : Int32) (m_drawers_full m_drawers_kept : Int32) (m_drawers_partA m_drawers_partB m_drawers_keptA m_drawers_keptB m_drawers_keptFull : Nat → Int32) (m_tape_size m_tape_plain m_tape_omegas m_tape_end m_tape_place m_tape_plainTold m_tape_omegasTold : Int32) (m_tape_bytes : Nat → Int32) (m_euclid_count : Int32) (m_euclid_last_a m_euclid_last_b m_euclid_lastOfFirst_a m_euclid_lastOfFirst_b m_euclid_lastOfSecond_a m_euclid_lastOfSecond_b m_euclid_next_a m_euclid_next_b m_euclid_nextOfFirst_a m_euclid_nextOfFirst_b m_euclid_nextOfSecond_a m_euclid_nextOfSecond_b m_euclid_q_a m_euclid_q_b : Int64) (m_euclid_quotientA m_euclid_quotientB : Nat → Int64) (m_modulus_step m_modulus_width m_modulus_slant m_modulus_square_a m_modulus_square_b : Int64) (m_factors_count m_factors_threes m_factors_unit : Int32) (m_factors_primeA m_factors_primeB m_factors_norms : Nat → Int64) (m_factors_euclid_count : Int32) (m_factors_euclid_last_a m_factors_euclid_last_b m_factors_euclid_lastOfFirst_a m_factors_euclid_lastOfFirst_b m_factors_euclid_lastOfSecond_a m_factors_euclid_lastOfSecond_b m_factors_euclid_next_a m_factors_euclid_next_b m_factors_euclid_nextOfFirst_a m_factors_euclid_nextOfFirst_b m_factors_euclid_nextOfSecond_a m_factors_euclid_nextOfSecond_b m_factors_euclid_q_a m_factors_euclid_q_b : Int64) (m_factors_euclid_quotientA m_factors_euclid_quotientB : Nat → Int64) (m_factors_left_a m_factors_left_b m_factors_found_a m_factors_found_b m_factors_product_a m_factors_product_b : Int64) (m_primes_count : Int32) (m_primes_primeA m_primes_primeB : Nat → Int32) (m_primes_found_a m_primes_found_b : Int64) (m_rings_foundA m_rings_foundB m_rings_all m_rings_mostOfOneRow m_letters_count : Int32) (m_letters_bytes : Nat → Int32) (m_one_a m_one_b m_two_a m_two_b m_three_a m_three_b m_four_a m_four_b m_out_a m_out_b m_spare_a m_spare_b : Int64) (m_marks : Nat → Int32) (x : (Nat → Int32)) (hf : f_X10_mark v1 v2 m_marks = some x) : kx_MV l yX10_mark cX10_mark 3 none 0 0 D T [.ref (h 0), .int v1, .int v2] (wC T h m_drawers_full m_drawers_kept m_drawers_partA m_drawers_partB m_drawers_keptA m_drawers_keptB m_drawers_keptFull m_tape_size m_tape_plain m_tape_omegas m_tape_end m_tape_place m_tape_plainTold m_tape_omegasTold m_tape_bytes m_euclid_count m_euclid_last_a m_euclid_last_b m_euclid_lastOfFirst_a m_euclid_lastOfFirst_b m_euclid_lastOfSecond_a m_euclid_lastOfSecond_b m_euclid_next_a m_euclid_next_b m_euclid_nextOfFirst_a m_euclid_nextOfFirst_b m_euclid_nextOfSecond_a m_euclid_nextOfSecond_b m_euclid_q_a m_euclid_q_b m_euclid_quotientA m_euclid_quotientB m_modulus_step m_modulus_width m_modulus_slant m_modulus_square_a m_modulus_square_b m_factors_count m_factors_threes m_factors_unit m_factors_primeA m_factors_primeB m_factors_norms m_factors_euclid_count m_factors_euclid_last_a m_factors_euclid_last_b m_factors_euclid_lastOfFirst_a m_factors_euclid_lastOfFirst_b m_factors_euclid_lastOfSecond_a m_factors_euclid_lastOfSecond_b m_factors_euclid_next_a m_factors_euclid_next_b m_factors_euclid_nextOfFirst_a m_factors_euclid_nextOfFirst_b m_factors_euclid_nextOfSecond_a m_factors_euclid_nextOfSecond_b m_factors_euclid_q_a m_factors_euclid_q_b m_factors_euclid_quotientA m_factors_euclid_quotientB m_factors_left_a m_factors_left_b m_factors_found_a m_factors_found_b m_factors_product_a m_factors_product_b m_primes_count m_primes_primeA m_primes_primeB m_primes_found_a m_primes_found_b m_rings_foundA m_rings_foundB m_rings_all m_rings_mostOfOneRow m_letters_count m_letters_bytes m_one_a m_one_b m_two_a m_two_b m_three_a m_three_b m_four_a m_four_b m_out_a m_out_b m_spare_a m_spare_b m_marks) (wC T h m_drawers_full m_drawers_kept m_drawers_partA m_drawers_partB m_drawers_keptA m_drawers_keptB m_drawers_keptFull m_tape_size m_tape_plain m_tape_omegas m_tape_end m_tape_place m_tape_plainTold m_tape_omegasTold m_tape_bytes m_euclid_count m_euclid_last_a m_euclid_last_b m_euclid_lastOfFirst_a m_euclid_lastOfFirst_b m_euclid_lastOfSecond_a m_euclid_lastOfSecond_b m_euclid_next_a m_euclid_next_b m_euclid_nextOfFirst_a m_euclid_nextOfFirst_b m_euclid_nextOfSecond_a m_euclid_nextOfSecond_b m_euclid_q_a m_euclid_q_b m_euclid_quotientA m_euclid_quotientB m_modulus_step m_modulus_width m_modulus_slant m_modulus_square_a m_modulus_square_b m_factors_count m_factors_threes m_factors_unit m_factors_primeA m_factors_primeB m_factors_norms m_factors_euclid_count m_factors_euclid_last_a m_factors_euclid_last_b m_factors_euclid_lastOfFirst_a m_factors_euclid_lastOfFirst_b m_factors_euclid_lastOfSecond_a m_factors_euclid_lastOfSecond_b m_factors_euclid_next_a m_factors_euclid_next_b m_factors_euclid_nextOfFirst_a m_factors_euclid_nextOfFirst_b m_factors_euclid_nextOfSecond_a m_factors_euclid_nextOfSecond_b m_factors_euclid_q_a m_factors_euclid_q_b m_factors_euclid_quotientA m_factors_euclid_quotientB m_factors_left_a m_factors_left_b m_factors_found_a m_factors_found_b m_factors_product_a m_factors_product_b m_primes_count m_primes_primeA m_primes_primeB m_primes_found_a m_primes_found_b m_rings_foundA m_rings_foundB m_rings_all m_rings_mostOfOneRow m_letters_count m_letters_bytes m_one_a m_one_b m_two_a m_two_b m_three_a m_three_b m_four_a m_four_b m_out_a m_out_b m_spare_a m_spare_b x) := by
  refine kx_ofMV RX10 rfl (plainFor_of_name (x := yX10_mark) kpn_X10) rfl ?_
  intro E A H ls _ C X R hl
  have hl : lv_has ls 3 [(0, .ref (h 0)), (1, .int v1), (2, .int v2)] := hl
  rw [f_X10_mark] at hf
  refine x_iload_n 1 C dX10_mark_0 hl 1 rfl rfl ?_
  refine x_if_lt 20 4 C dX10_mark_1 rfl rfl hf (fun hf => ?_) (fun hf => ?_)
  · obtain rfl := Option.some.inj hf
    exact R _ _ _ _ X dX10_mark_20
  refine x_iload_n 5 C dX10_mark_4 hl 1 rfl rfl ?_
  refine x_aload_n 6 C dX10_mark_5 hl 0 rfl rfl ?_
  refine x_get 9 C dX10_mark_6 X kf_X10_89 0 rfl rfl rfl ?_
  refine x_alen 10 C dX10_mark_9 X 51 0 rfl rfl (2000 : Int32) kn_2000 rfl ?_
  refine x_icmp_ge 20 13 C dX10_mark_10 rfl rfl hf (fun hf => ?_) (fun hf => ?_)
  · obtain rfl := Option.some.inj hf
    exact R _ _ _ _ X dX10_mark_20
  refine x_aload_n 14 C dX10_mark_13 hl 0 rfl rfl ?_
  refine x_get 17 C dX10_mark_14 X kf_X10_89 0 rfl rfl rfl ?_
  refine x_iload_n 18 C dX10_mark_17 hl 1 rfl rfl ?_
  refine x_iload_n 19 C dX10_mark_18 hl 2 rfl rfl ?_
  refine x_iast 20 C dX10_mark_19 X 51 rfl (wC T h m_drawers_full m_drawers_kept m_drawers_partA m_drawers_partB m_drawers_keptA m_drawers_keptB m_drawers_keptFull m_tape_size m_tape_plain m_tape_omegas m_tape_end m_tape_place m_tape_plainTold m_tape_omegasTold m_tape_bytes m_euclid_count m_euclid_last_a m_euclid_last_b m_euclid_lastOfFirst_a m_euclid_lastOfFirst_b m_euclid_lastOfSecond_a m_euclid_lastOfSecond_b m_euclid_next_a m_euclid_next_b m_euclid_nextOfFirst_a m_euclid_nextOfFirst_b m_euclid_nextOfSecond_a m_euclid_nextOfSecond_b m_euclid_q_a m_euclid_q_b m_euclid_quotientA m_euclid_quotientB m_modulus_step m_modulus_width m_modulus_slant m_modulus_square_a m_modulus_square_b m_factors_count m_factors_threes m_factors_unit m_factors_primeA m_factors_primeB m_factors_norms m_factors_euclid_count m_factors_euclid_last_a m_factors_euclid_last_b m_factors_euclid_lastOfFirst_a m_factors_euclid_lastOfFirst_b m_factors_euclid_lastOfSecond_a m_factors_euclid_lastOfSecond_b m_factors_euclid_next_a m_factors_euclid_next_b m_factors_euclid_nextOfFirst_a m_factors_euclid_nextOfFirst_b m_factors_euclid_nextOfSecond_a m_factors_euclid_nextOfSecond_b m_factors_euclid_q_a m_factors_euclid_q_b m_factors_euclid_quotientA m_factors_euclid_quotientB m_factors_left_a m_factors_left_b m_factors_found_a m_factors_found_b m_factors_product_a m_factors_product_b m_primes_count m_primes_primeA m_primes_primeB m_primes_found_a m_primes_found_b m_rings_foundA m_rings_foundB m_rings_all m_rings_mostOfOneRow m_letters_count m_letters_bytes m_one_a m_one_b m_two_a m_two_b m_three_a m_three_b m_four_a m_four_b m_out_a m_out_b m_spare_a m_spare_b (upd m_marks (v1).toNatClampNeg v2)) rfl hf rfl (fun H locs X hf => ?_)
  obtain rfl := Option.some.inj hf
  exact R _ _ _ _ X dX10_mark_20
set_option maxHeartbeats 4000000 in
set_option maxRecDepth 100000 in
theorem c_X4_size (l : Launch) (D : va_G) (T : KT) (h0 h1 : Nat)  (m_step m_width m_slant : Int64) (x : Int32) (hf : f_X4_size m_step m_width = some x) : kx_MI l yX4_size cX4_size 1 (some .int) 0 0 D T [.ref h0] (w41_X4 T h0 h1 m_step m_width m_slant) (w41_X4 T h0 h1 m_step m_width m_slant) x := by
  refine kx_ofMI RX4 rfl (plainFor_of_name (x := yX4_size) kpn_X4) rfl ?_
  intro E A H ls _ C X R hl
  have hl : lv_has ls 1 [(0, .ref h0)] := hl
  rw [f_X4_size] at hf
  refine x_aload_n 1 C dX4_size_0 hl 0 rfl rfl ?_
  refine x_get 4 C dX4_size_1 X kf_X4_7 0 rfl rfl rfl ?_
  refine x_aload_n 5 C dX4_size_4 hl 0 rfl rfl ?_
  refine x_get 8 C dX4_size_5 X kf_X4_13 0 rfl rfl rfl ?_
  refine x_lmul 9 C dX4_size_8 rfl ?_
  refine x_l2i 10 C dX4_size_9 rfl ?_
  obtain rfl := Option.some.inj hf
  exact R _ _ _ _ X dX4_size_10
