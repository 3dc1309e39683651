set_option maxHeartbeats 4000000 in
set_option maxRecDepth 100000 in
theorem w_X11_counts_37 {E : KE} {A : Nat → Prop} {D : va_G} {T : KT} (h : Nat → Nat) (C : kx_C E cX11_counts 9 none RX11 0 0 D T) (N : Nat) (x : Int64 × Int64 × Int64 × Int32) (m_taped m_states : Int32) (m_ra m_rb : Int64) (m_threes m_primes m_ones m_unit : Int32) (m_boxWide m_boxHigh m_boxStep : Int64) (m_partingMany : Int32) (m_qa m_qb m_la m_lb m_sa m_sb m_ta m_tb : Int64) (m_listed m_tells m_wanted m_found : Int32) (m_bits : Int64) (m_power2 m_rings m_ringA m_ringB m_seedNow : Int32) (m_tape m_has m_keptHas m_first m_second m_keptFirst m_keptSecond m_pa m_pb m_pNorm m_cubed m_isOpen m_signs m_often m_la0 m_lb0 : Nat → Int32) (R : kx_RV E cX11_counts D A (wM T h m_taped m_states m_ra m_rb m_threes m_primes m_ones m_unit x.1 x.2.1 x.2.2.1 x.2.2.2 m_boxWide m_boxHigh m_boxStep m_partingMany m_qa m_qb m_la m_lb m_sa m_sb m_ta m_tb m_listed m_tells m_wanted m_found m_bits m_power2 m_rings m_ringA m_ringB m_seedNow m_tape m_has m_keptHas m_first m_second m_keptFirst m_keptSecond m_pa m_pb m_pNorm m_cubed m_isOpen m_signs m_often m_la0 m_lb0)) (k14 : Int64 → Int32 → Int64 → Int64 → Int32 → Int64 → Int64 → Int64 → Int32 → Option (Int64 × Int64 × Int64 × Int32)) (hk14 : ∀ (m_allParts m_allNorms m_allClasses : Int64) (m_odd : Int32) (v1 : Int64) (v3 : Int32) (v4 v6 : Int64) (v8 : Int32) (H : Heap) (locs : List Loc) (ls : Array Slot), kx_H E D A H locs (wM T h m_taped m_states m_ra m_rb m_threes m_primes m_ones m_unit m_allParts m_allNorms m_allClasses m_odd m_boxWide m_boxHigh m_boxStep m_partingMany m_qa m_qb m_la m_lb m_sa m_sb m_ta m_tb m_listed m_tells m_wanted m_found m_bits m_power2 m_rings m_ringA m_ringB m_seedNow m_tape m_has m_keptHas m_first m_second m_keptFirst m_keptSecond m_pa m_pb m_pNorm m_cubed m_isOpen m_signs m_often m_la0 m_lb0) → lv_has ls 9 [(0, .ref (h 0)), (1, .long v1), (3, .int v3), (4, .long v4), (6, .long v6), (8, .int v8)] → k14 v1 v3 v4 v6 v8 m_allParts m_allNorms m_allClasses m_odd = some x → kx_W E H locs 14 ls []) : ∀ (m_allParts m_allNorms m_allClasses : Int64) (m_odd : Int32) (v1 : Int64) (v3 : Int32) (v4 v6 : Int64) (v8 : Int32) (s1 s2 : Int64) (H : Heap) (locs : List Loc) (ls : Array Slot), kx_H E D A H locs (wM T h m_taped m_states m_ra m_rb m_threes m_primes m_ones m_unit m_allParts m_allNorms m_allClasses m_odd m_boxWide m_boxHigh m_boxStep m_partingMany m_qa m_qb m_la m_lb m_sa m_sb m_ta m_tb m_listed m_tells m_wanted m_found m_bits m_power2 m_rings m_ringA m_ringB m_seedNow m_tape m_has m_keptHas m_first m_second m_keptFirst m_keptSecond m_pa m_pb m_pNorm m_cubed m_isOpen m_signs m_often m_la0 m_lb0) → lv_has ls 9 [(0, .ref (h 0)), (1, .long v1), (3, .int v3), (4, .long v4), (6, .long v6), (8, .int v8)] → f_X11_counts_37 N k14 v1 v3 v4 v6 v8 s1 s2 m_allParts m_allNorms m_odd = some x → kx_W E H locs 37 ls [.long s2, .long s1, .ref (h 0)] := by
  intro m_allParts m_allNorms m_allClasses m_odd v1 v3 v4 v6 v8 s1 s2 H locs ls X hl hf
  rw [f_X11_counts_37] at hf
  refine x_lmul 38 C dX11_counts_37 rfl ?_
  refine x_put 41 C dX11_counts_38 X kp_X11_225 0 rfl rfl rfl rfl (wM T h m_taped m_states m_ra m_rb m_threes m_primes m_ones m_unit m_allParts m_allNorms (s1 * s2) m_odd m_boxWide m_boxHigh m_boxStep m_partingMany m_qa m_qb m_la m_lb m_sa m_sb m_ta m_tb m_listed m_tells m_wanted m_found m_bits m_power2 m_rings m_ringA m_ringB m_seedNow m_tape m_has m_keptHas m_first m_second m_keptFirst m_keptSecond m_pa m_pb m_pNorm m_cubed m_isOpen m_signs m_often m_la0 m_lb0) rfl rfl (fun H locs X => ?_)
  refine x_lload 43 C dX11_counts_41 hl 4 rfl rfl ?_
  refine x_lload_n 44 C dX11_counts_43 hl 1 rfl rfl ?_
  refine x_lmul 45 C dX11_counts_44 rfl ?_
  refine x_lstore 47 C dX11_counts_45 [(6, .long (v6 * v1)), (0, .ref (h 0)), (1, .long v1), (3, .int v3), (4, .long v4), (8, .int v8)] hl rfl rfl rfl (fun ls hl => ?_)
  refine x_lload 49 C dX11_counts_47 hl 4 rfl rfl ?_
  refine x_lload 51 C dX11_counts_49 hl 0 rfl rfl ?_
  refine x_ladd 52 C dX11_counts_51 rfl ?_
  refine x_lstore 54 C dX11_counts_52 [(4, .long (v4 + (v6 * v1))), (6, .long (v6 * v1)), (0, .ref (h 0)), (1, .long v1), (3, .int v3), (8, .int v8)] hl rfl rfl rfl (fun ls hl => ?_)
  refine x_iinc 57 C dX11_counts_54 (1 : Int32) kv_iconst_1 [(8, .int (v8 + (1 : Int32))), (4, .long (v4 + (v6 * v1))), (6, .long (v6 * v1)), (0, .ref (h 0)), (1, .long v1), (3, .int v3)] hl 5 rfl rfl rfl rfl (fun ls hl => ?_)
  refine x_goto 14 C dX11_counts_57 rfl ?_
  exact hk14 m_allParts m_allNorms (s1 * s2) m_odd v1 v3 (v4 + (v6 * v1)) (v6 * v1) (v8 + (1 : Int32)) _ _ _ X (lv_sub hl [3, 4, 5, 1, 2, 0] rfl) hf
set_option maxHeartbeats 4000000 in
set_option maxRecDepth 100000 in
theorem w_X11_counts_14 {E : KE} {A : Nat → Prop} {D : va_G} {T : KT} (h : Nat → Nat) (C : kx_C E cX11_counts 9 none RX11 0 0 D T) (N : Nat) (x : Int64 × Int64 × Int64 × Int32) (m_taped m_states : Int32) (m_ra m_rb : Int64) (m_threes m_primes m_ones m_unit : Int32) (m_boxWide m_boxHigh m_boxStep : Int64) (m_partingMany : Int32) (m_qa m_qb m_la m_lb m_sa m_sb m_ta m_tb : Int64) (m_listed m_tells m_wanted m_found : Int32) (m_bits : Int64) (m_power2 m_rings m_ringA m_ringB m_seedNow : Int32) (m_tape m_has m_keptHas m_first m_second m_keptFirst m_keptSecond m_pa m_pb m_pNorm m_cubed m_isOpen m_signs m_often m_la0 m_lb0 : Nat → Int32) (R : kx_RV E cX11_counts D A (wM T h m_taped m_states m_ra m_rb m_threes m_primes m_ones m_unit x.1 x.2.1 x.2.2.1 x.2.2.2 m_boxWide m_boxHigh m_boxStep m_partingMany m_qa m_qb m_la m_lb m_sa m_sb m_ta m_tb m_listed m_tells m_wanted m_found m_bits m_power2 m_rings m_ringA m_ringB m_seedNow m_tape m_has m_keptHas m_first m_second m_keptFirst m_keptSecond m_pa m_pb m_pNorm m_cubed m_isOpen m_signs m_often m_la0 m_lb0)) : ∀ (k : Nat), ∀ (m_allParts m_allNorms m_allClasses : Int64) (m_odd : Int32) (v1 : Int64) (v3 : Int32) (v4 v6 : Int64) (v8 : Int32) (H : Heap) (locs : List Loc) (ls : Array Slot), kx_H E D A H locs (wM T h m_taped m_states m_ra m_rb m_threes m_primes m_ones m_unit m_allParts m_allNorms m_allClasses m_odd m_boxWide m_boxHigh m_boxStep m_partingMany m_qa m_qb m_la m_lb m_sa m_sb m_ta m_tb m_listed m_tells m_wanted m_found m_bits m_power2 m_rings m_ringA m_ringB m_seedNow m_tape m_has m_keptHas m_first m_second m_keptFirst m_keptSecond m_pa m_pb m_pNorm m_cubed m_isOpen m_signs m_often m_la0 m_lb0) → lv_has ls 9 [(0, .ref (h 0)), (1, .long v1), (3, .int v3), (4, .long v4), (6, .long v6), (8, .int v8)] → f_X11_counts_14 N k v1 v3 v4 v6 v8 m_allParts m_allNorms m_allClasses m_odd = some x → kx_W E H locs 14 ls [] := by
  intro k
  induction k with
  | zero =>
    intro m_allParts m_allNorms m_allClasses m_odd v1 v3 v4 v6 v8 H locs ls X hl hf
    cases (show (none : Option (Int64 × Int64 × Int64 × Int32)) = some x from hf)
  | succ k ih =>
    intro m_allParts m_allNorms m_allClasses m_odd v1 v3 v4 v6 v8 H locs ls X hl hf
    rw [f_X11_counts_14] at hf
    refine x_iload 16 C dX11_counts_14 hl 5 rfl rfl ?_
    refine x_iload_n 17 C dX11_counts_16 hl 2 rfl rfl ?_
    refine x_icmp_ge 60 20 C dX11_counts_17 rfl rfl hf (fun hf => ?_) (fun hf => ?_)
    · refine x_aload_n 61 C dX11_counts_60 hl 0 rfl rfl ?_
      refine x_aload_n 62 C dX11_counts_61 hl 0 rfl rfl ?_
      refine x_get 65 C dX11_counts_62 X kf_X11_228 0 rfl rfl rfl ?_
      refine x_iload_n 66 C dX11_counts_65 hl 2 rfl rfl ?_
      refine x_iconst 67 C dX11_counts_66 (1 : Int32) kv_iconst_1 rfl ?_
      refine x_iadd 68 C dX11_counts_67 rfl ?_
      refine x_i2l 69 C dX11_counts_68 rfl ?_
      refine x_lmul 70 C dX11_counts_69 rfl ?_
      refine x_put 73 C dX11_counts_70 X kp_X11_228 0 rfl rfl rfl rfl (wM T h m_taped m_states m_ra m_rb m_threes m_primes m_ones m_unit (m_allParts * ((v3 + (1 : Int32))).toInt64) m_allNorms m_allClasses m_odd m_boxWide m_boxHigh m_boxStep m_partingMany m_qa m_qb m_la m_lb m_sa m_sb m_ta m_tb m_listed m_tells m_wanted m_found m_bits m_power2 m_rings m_ringA m_ringB m_seedNow m_tape m_has m_keptHas m_first m_second m_keptFirst m_keptSecond m_pa m_pb m_pNorm m_cubed m_isOpen m_signs m_often m_la0 m_lb0) rfl rfl (fun H locs X => ?_)
      refine x_aload_n 74 C dX11_counts_73 hl 0 rfl rfl ?_
      refine x_aload_n 75 C dX11_counts_74 hl 0 rfl rfl ?_
      refine x_get 78 C dX11_counts_75 X kf_X11_231 0 rfl rfl rfl ?_
      refine x_lload 80 C dX11_counts_78 hl 3 rfl rfl ?_
      refine x_lmul 81 C dX11_counts_80 rfl ?_
      refine x_put 84 C dX11_counts_81 X kp_X11_231 0 rfl rfl rfl rfl (wM T h m_taped m_states m_ra m_rb m_threes m_primes m_ones m_unit (m_allParts * ((v3 + (1 : Int32))).toInt64) (m_allNorms * v4) m_allClasses m_odd m_boxWide m_boxHigh m_boxStep m_partingMany m_qa m_qb m_la m_lb m_sa m_sb m_ta m_tb m_listed m_tells m_wanted m_found m_bits m_power2 m_rings m_ringA m_ringB m_seedNow m_tape m_has m_keptHas m_first m_second m_keptFirst m_keptSecond m_pa m_pb m_pNorm m_cubed m_isOpen m_signs m_often m_la0 m_lb0) rfl rfl (fun H locs X => ?_)
      refine x_aload_n 85 C dX11_counts_84 hl 0 rfl rfl ?_
      refine x_iload_n 86 C dX11_counts_85 hl 2 rfl rfl ?_
      refine x_iconst 87 C dX11_counts_86 (1 : Int32) kv_iconst_1 rfl ?_
      refine x_icmp_le 94 90 C dX11_counts_87 rfl rfl hf (fun hf => ?_) (fun hf => ?_)
      · refine x_aload_n 95 C dX11_counts_94 hl 0 rfl rfl ?_
        refine x_get 98 C dX11_counts_95 X kf_X11_234 0 rfl rfl rfl ?_
        refine x_ineg 99 C dX11_counts_98 rfl ?_
        refine x_put 102 C dX11_counts_99 X kp_X11_234 0 rfl rfl rfl rfl (wM T h m_taped m_states m_ra m_rb m_threes m_primes m_ones m_unit (m_allParts * ((v3 + (1 : Int32))).toInt64) (m_allNorms * v4) m_allClasses (-m_odd) m_boxWide m_boxHigh m_boxStep m_partingMany m_qa m_qb m_la m_lb m_sa m_sb m_ta m_tb m_listed m_tells m_wanted m_found m_bits m_power2 m_rings m_ringA m_ringB m_seedNow m_tape m_has m_keptHas m_first m_second m_keptFirst m_keptSecond m_pa m_pb m_pNorm m_cubed m_isOpen m_signs m_often m_la0 m_lb0) rfl rfl (fun H locs X => ?_)
        obtain rfl := Option.some.inj hf
        exact R _ _ _ _ X dX11_counts_102
      refine x_iconst 91 C dX11_counts_90 (0 : Int32) kv_iconst_0 rfl ?_
      refine x_goto 99 C dX11_counts_91 rfl ?_
      refine x_put 102 C dX11_counts_99 X kp_X11_234 0 rfl rfl rfl rfl (wM T h m_taped m_states m_ra m_rb m_threes m_primes m_ones m_unit (m_allParts * ((v3 + (1 : Int32))).toInt64) (m_allNorms * v4) m_allClasses (0 : Int32) m_boxWide m_boxHigh m_boxStep m_partingMany m_qa m_qb m_la m_lb m_sa m_sb m_ta m_tb m_listed m_tells m_wanted m_found m_bits m_power2 m_rings m_ringA m_ringB m_seedNow m_tape m_has m_keptHas m_first m_second m_keptFirst m_keptSecond m_pa m_pb m_pNorm m_cubed m_isOpen m_signs m_often m_la0 m_lb0) rfl rfl (fun H locs X => ?_)
      obtain rfl := Option.some.inj hf
      exact R _ _ _ _ X dX11_counts_102
    refine x_aload_n 21 C dX11_counts_20 hl 0 rfl rfl ?_
    refine x_aload_n 22 C dX11_counts_21 hl 0 rfl rfl ?_
    refine x_get 25 C dX11_counts_22 X kf_X11_225 0 rfl rfl rfl ?_
    refine x_iload 27 C dX11_counts_25 hl 5 rfl rfl ?_
    refine x_if_ne 36 30 C dX11_counts_27 rfl rfl hf (fun hf => ?_) (fun hf => ?_)
    · refine x_lload_n 37 C dX11_counts_36 hl 1 rfl rfl ?_
      exact w_X11_counts_37 h C N x m_taped m_states m_ra m_rb m_threes m_primes m_ones m_unit m_boxWide m_boxHigh m_boxStep m_partingMany m_qa m_qb m_la m_lb m_sa m_sb m_ta m_tb m_listed m_tells m_wanted m_found m_bits m_power2 m_rings m_ringA m_ringB m_seedNow m_tape m_has m_keptHas m_first m_second m_keptFirst m_keptSecond m_pa m_pb m_pNorm m_cubed m_isOpen m_signs m_often m_la0 m_lb0 R (f_X11_counts_14 N k) ih m_allParts m_allNorms m_allClasses m_odd v1 v3 v4 v6 v8 m_allClasses v1 _ _ _ X (lv_sub hl [0, 1, 2, 3, 4, 5] rfl) hf
    refine x_lload_n 31 C dX11_counts_30 hl 1 rfl rfl ?_
    refine x_lconst 32 C dX11_counts_31 (1 : Int64) kv_lconst_1 rfl ?_
    refine x_lsub 33 C dX11_counts_32 rfl ?_
    refine x_goto 37 C dX11_counts_33 rfl ?_
    exact w_X11_counts_37 h C N x m_taped m_states m_ra m_rb m_threes m_primes m_ones m_unit m_boxWide m_boxHigh m_boxStep m_partingMany m_qa m_qb m_la m_lb m_sa m_sb m_ta m_tb m_listed m_tells m_wanted m_found m_bits m_power2 m_rings m_ringA m_ringB m_seedNow m_tape m_has m_keptHas m_first m_second m_keptFirst m_keptSecond m_pa m_pb m_pNorm m_cubed m_isOpen m_signs m_often m_la0 m_lb0 R (f_X11_counts_14 N k) ih m_allParts m_allNorms m_allClasses m_odd v1 v3 v4 v6 v8 m_allClasses (v1 - (1 : Int64)) _ _ _ X (lv_sub hl [0, 1, 2, 3, 4, 5] rfl) hf
set_option maxHeartbeats 4000000 in
set_option maxRecDepth 100000 in
theorem c_X11_counts (l : Launch) (D : va_G) (T : KT) (h : Nat → Nat) (N : Nat) (v1 : Int64) (v3 : Int32) (m_taped m_states : Int32) (m_ra m_rb : Int64) (m_threes m_primes m_ones m_unit : Int32) (m_allParts m_allNorms m_allClasses : Int64) (m_odd : Int32) (m_boxWide m_boxHigh m_boxStep : Int64) (m_partingMany : Int32) (m_qa m_qb m_la m_lb m_sa m_sb m_ta m_tb : Int64) (m_listed m_tells m_wanted m_found : Int32) (m_bits : Int64) (m_power2 m_rings m_ringA m_ringB m_seedNow : Int32) (m_tape m_has m_keptHas m_first m_second m_keptFirst m_keptSecond m_pa m_pb m_pNorm m_cubed m_isOpen m_signs m_often m_la0 m_lb0 : Nat → Int32) (x : Int64 × Int64 × Int64 × Int32) (hf : f_X11_counts N v1 v3 m_allParts m_allNorms m_allClasses m_odd = some x) : kx_MV l yX11_counts cX11_counts 9 none 0 0 D T [.ref (h 0), .long v1, .int v3] (wM T h m_taped m_states m_ra m_rb m_threes m_primes m_ones m_unit m_allParts m_allNorms m_allClasses m_odd m_boxWide m_boxHigh m_boxStep m_partingMany m_qa m_qb m_la m_lb m_sa m_sb m_ta m_tb m_listed m_tells m_wanted m_found m_bits m_power2 m_rings m_ringA m_ringB m_seedNow m_tape m_has m_keptHas m_first m_second m_keptFirst m_keptSecond m_pa m_pb m_pNorm m_cubed m_isOpen m_signs m_often m_la0 m_lb0) (wM T h m_taped m_states m_ra m_rb m_threes m_primes m_ones m_unit x.1 x.2.1 x.2.2.1 x.2.2.2 m_boxWide m_boxHigh m_boxStep m_partingMany m_qa m_qb m_la m_lb m_sa m_sb m_ta m_tb m_listed m_tells m_wanted m_found m_bits m_power2 m_rings m_ringA m_ringB m_seedNow m_tape m_has m_keptHas m_first m_second m_keptFirst m_keptSecond m_pa m_pb m_pNorm m_cubed m_isOpen m_signs m_often m_la0 m_lb0) := by
  refine kx_ofMV RX11 rfl (plainFor_of_name (x := yX11_counts) kpn_X11) rfl ?_
  intro E A H ls _ C X R hl
  have hl : lv_has ls 9 [(0, .ref (h 0)), (1, .long v1), (3, .int v3)] := hl
  rw [f_X11_counts] at hf
  refine x_iload_n 1 C dX11_counts_0 hl 2 rfl rfl ?_
  refine x_if_ne 5 4 C dX11_counts_1 rfl rfl hf (fun hf => ?_) (fun hf => ?_)
  · refine x_lconst 6 C dX11_counts_5 (1 : Int64) kv_lconst_1 rfl ?_
    refine x_lstore 8 C dX11_counts_6 [(4, .long (1 : Int64)), (0, .ref (h 0)), (1, .long v1), (3, .int v3)] hl rfl rfl rfl (fun ls hl => ?_)
    refine x_lconst 9 C dX11_counts_8 (1 : Int64) kv_lconst_1 rfl ?_
    refine x_lstore 11 C dX11_counts_9 [(6, .long (1 : Int64)), (4, .long (1 : Int64)), (0, .ref (h 0)), (1, .long v1), (3, .int v3)] hl rfl rfl rfl (fun ls hl => ?_)
    refine x_iconst 12 C dX11_counts_11 (0 : Int32) kv_iconst_0 rfl ?_
    refine x_istore 14 C dX11_counts_12 [(8, .int (0 : Int32)), (6, .long (1 : Int64)), (4, .long (1 : Int64)), (0, .ref (h 0)), (1, .long v1), (3, .int v3)] hl rfl rfl rfl (fun ls hl => ?_)
    exact w_X11_counts_14 h C N x m_taped m_states m_ra m_rb m_threes m_primes m_ones m_unit m_boxWide m_boxHigh m_boxStep m_partingMany m_qa m_qb m_la m_lb m_sa m_sb m_ta m_tb m_listed m_tells m_wanted m_found m_bits m_power2 m_rings m_ringA m_ringB m_seedNow m_tape m_has m_keptHas m_first m_second m_keptFirst m_keptSecond m_pa m_pb m_pNorm m_cubed m_isOpen m_signs m_often m_la0 m_lb0 R  N m_allParts m_allNorms m_allClasses m_odd v1 v3 (1 : Int64) (1 : Int64) (0 : Int32) _ _ _ X (lv_sub hl [3, 4, 5, 2, 1, 0] rfl) hf
  obtain rfl := Option.some.inj hf
  exact R _ _ _ _ X dX11_counts_4
set_option maxHeartbeats 4000000 in
set_option maxRecDepth 100000 in
theorem w_X11_countsAll_113 {E : KE} {A : Nat → Prop} {D : va_G} {T : KT} (h : Nat → Nat) (C : kx_C E cX11_countsAll 7 none RX11 6 178 D T) (N : Nat) (x : Int64 × Int64 × Int32 × Int32 × Int32 × Int32 × Int64 × Int64 × Int64 × Int32 × (Nat → Int32) × (Nat → Int32) × (Nat → Int32)) (m_taped m_states : Int32) (m_boxWide m_boxHigh m_boxStep : Int64) (m_partingMany : Int32) (m_qa m_qb m_la m_lb m_sa m_sb m_ta m_tb : Int64) (m_listed m_tells m_wanted m_found : Int32) (m_bits : Int64) (m_power2 m_rings m_ringA m_ringB m_seedNow : Int32) (m_tape m_has m_keptHas m_first m_second m_keptFirst m_keptSecond m_cubed m_isOpen m_signs m_often m_la0 m_lb0 : Nat → Int32) (R : kx_RV E cX11_countsAll D A (wM T h m_taped m_states x.1 x.2.1 x.2.2.1 x.2.2.2.1 x.2.2.2.2.1 x.2.2.2.2.2.1 x.2.2.2.2.2.2.1 x.2.2.2.2.2.2.2.1 x.2.2.2.2.2.2.2.2.1 x.2.2.2.2.2.2.2.2.2.1 m_boxWide m_boxHigh m_boxStep m_partingMany m_qa m_qb m_la m_lb m_sa m_sb m_ta m_tb m_listed m_tells m_wanted m_found m_bits m_power2 m_rings m_ringA m_ringB m_seedNow m_tape m_has m_keptHas m_first m_second m_keptFirst m_keptSecond x.2.2.2.2.2.2.2.2.2.2.1 x.2.2.2.2.2.2.2.2.2.2.2.1 x.2.2.2.2.2.2.2.2.2.2.2.2 m_cubed m_isOpen m_signs m_often m_la0 m_lb0)) (k40 : Int32 → Int64 → Int64 → Int32 → Int32 → Int32 → Int32 → Int64 → Int64 → Int64 → Int32 → (Nat → Int32) → (Nat → Int32) → (Nat → Int32) → Option (Int64 × Int64 × Int32 × Int32 × Int32 × Int32 × Int64 × Int64 × Int64 × Int32 × (Nat → Int32) × (Nat → Int32) × (Nat → Int32))) (hk40 : ∀ (m_ra m_rb : Int64) (m_threes m_primes m_ones m_unit : Int32) (m_allParts m_allNorms m_allClasses : Int64) (m_odd : Int32) (m_pa m_pb m_pNorm : Nat → Int32) (v5 : Int32) (H : Heap) (locs : List Loc) (ls : Array Slot), kx_H E D A H locs (wM T h m_taped m_states m_ra m_rb m_threes m_primes m_ones m_unit m_allParts m_allNorms m_allClasses m_odd m_boxWide m_boxHigh m_boxStep m_partingMany m_qa m_qb m_la m_lb m_sa m_sb m_ta m_tb m_listed m_tells m_wanted m_found m_bits m_power2 m_rings m_ringA m_ringB m_seedNow m_tape m_has m_keptHas m_first m_second m_keptFirst m_keptSecond m_pa m_pb m_pNorm m_cubed m_isOpen m_signs m_often m_la0 m_lb0) → lv_has ls 7 [(0, .ref (h 0)), (5, .int v5)] → k40 v5 m_ra m_rb m_threes m_primes m_ones m_unit m_allParts m_allNorms m_allClasses m_odd m_pa m_pb m_pNorm = some x → kx_W E H locs 40 ls []) : ∀ (m_ra m_rb : Int64) (m_threes m_primes m_ones m_unit : Int32) (m_allParts m_allNorms m_allClasses : Int64) (m_odd : Int32) (m_pa m_pb m_pNorm : Nat → Int32) (v5 v6 : Int32) (H : Heap) (locs : List Loc) (ls : Array Slot), kx_H E D A H locs (wM T h m_taped m_states m_ra m_rb m_threes m_primes m_ones m_unit m_allParts m_allNorms m_allClasses m_odd m_boxWide m_boxHigh m_boxStep m_partingMany m_qa m_qb m_la m_lb m_sa m_sb m_ta m_tb m_listed m_tells m_wanted m_found m_bits m_power2 m_rings m_ringA m_ringB m_seedNow m_tape m_has m_keptHas m_first m_second m_keptFirst m_keptSecond m_pa m_pb m_pNorm m_cubed m_isOpen m_signs m_often m_la0 m_lb0) → lv_has ls 7 [(0, .ref (h 0)), (5, .int v5), (6, .int v6)] → f_X11_countsAll_113 N k40 v5 v6 m_ra m_rb m_threes m_primes m_ones m_unit m_allParts m_allNorms m_allClasses m_odd m_pa m_pb m_pNorm = some x → kx_W E H locs 113 ls [] := by
  intro m_ra m_rb m_threes m_primes m_ones m_unit m_allParts m_allNorms m_allClasses m_odd m_pa m_pb m_pNorm v5 v6 H locs ls X hl hf
  rw [f_X11_countsAll_113] at hf
  refine x_aload_n 114 C dX11_countsAll_113 hl 0 rfl rfl ?_
  refine x_aload_n 115 C dX11_countsAll_114 hl 0 rfl rfl ?_
  refine x_get 118 C dX11_countsAll_115 X kf_X11_39 0 rfl rfl rfl ?_
  refine x_iload 120 C dX11_countsAll_118 hl 1 rfl rfl ?_
  refine x_iald 121 C dX11_countsAll_120 X 10 rfl hf rfl (fun hf => ?_)
  refine x_i2l 122 C dX11_countsAll_121 rfl ?_
  refine x_iload 124 C dX11_countsAll_122 hl 2 rfl rfl ?_
  obtain ⟨y124, hy124, hf⟩ := kx_bind hf
  refine x_callVv0 127 C dX11_countsAll_124 X hl kl_X11_237 (c_X11_counts E.2.1 D T h N ((m_pNorm (v5).toNatClampNeg)).toInt64 v6 m_taped m_states m_ra m_rb m_threes m_primes m_ones m_unit m_allParts m_allNorms m_allClasses m_odd m_boxWide m_boxHigh m_boxStep m_partingMany m_qa m_qb m_la m_lb m_sa m_sb m_ta m_tb m_listed m_tells m_wanted m_found m_bits m_power2 m_rings m_ringA m_ringB m_seedNow m_tape m_has m_keptHas m_first m_second m_keptFirst m_keptSecond m_pa m_pb m_pNorm m_cubed m_isOpen m_signs m_often m_la0 m_lb0 y124 hy124) rfl rfl [] rfl rfl rfl rfl rfl rfl (fun H locs X => ?_)
  refine x_iload 129 C dX11_countsAll_127 hl 1 rfl rfl ?_
  refine x_iload 131 C dX11_countsAll_129 hl 2 rfl rfl ?_
  refine x_iadd 132 C dX11_countsAll_131 rfl ?_
  refine x_istore 134 C dX11_countsAll_132 [(5, .int (v5 + v6)), (0, .ref (h 0)), (6, .int v6)] hl rfl rfl rfl (fun ls hl => ?_)
  refine x_goto 40 C dX11_countsAll_134 rfl ?_
  exact hk40 m_ra m_rb m_threes m_primes m_ones m_unit y124.1 y124.2.1 y124.2.2.1 y124.2.2.2 m_pa m_pb m_pNorm (v5 + v6) _ _ _ X (lv_sub hl [1, 0] rfl) hf
set_option maxHeartbeats 4000000 in
set_option maxRecDepth 100000 in
theorem w_X11_countsAll_52 {E : KE} {A : Nat → Prop} {D : va_G} {T : KT} (h : Nat → Nat) (C : kx_C E cX11_countsAll 7 none RX11 6 178 D T) (N : Nat) (x : Int64 × Int64 × Int32 × Int32 × Int32 × Int32 × Int64 × Int64 × Int64 × Int32 × (Nat → Int32) × (Nat → Int32) × (Nat → Int32)) (m_taped m_states : Int32) (m_boxWide m_boxHigh m_boxStep : Int64) (m_partingMany : Int32) (m_qa m_qb m_la m_lb m_sa m_sb m_ta m_tb : Int64) (m_listed m_tells m_wanted m_found : Int32) (m_bits : Int64) (m_power2 m_rings m_ringA m_ringB m_seedNow : Int32) (m_tape m_has m_keptHas m_first m_second m_keptFirst m_keptSecond m_cubed m_isOpen m_signs m_often m_la0 m_lb0 : Nat → Int32) (R : kx_RV E cX11_countsAll D A (wM T h m_taped m_states x.1 x.2.1 x.2.2.1 x.2.2.2.1 x.2.2.2.2.1 x.2.2.2.2.2.1 x.2.2.2.2.2.2.1 x.2.2.2.2.2.2.2.1 x.2.2.2.2.2.2.2.2.1 x.2.2.2.2.2.2.2.2.2.1 m_boxWide m_boxHigh m_boxStep m_partingMany m_qa m_qb m_la m_lb m_sa m_sb m_ta m_tb m_listed m_tells m_wanted m_found m_bits m_power2 m_rings m_ringA m_ringB m_seedNow m_tape m_has m_keptHas m_first m_second m_keptFirst m_keptSecond x.2.2.2.2.2.2.2.2.2.2.1 x.2.2.2.2.2.2.2.2.2.2.2.1 x.2.2.2.2.2.2.2.2.2.2.2.2 m_cubed m_isOpen m_signs m_often m_la0 m_lb0)) (k40 : Int32 → Int64 → Int64 → Int32 → Int32 → Int32 → Int32 → Int64 → Int64 → Int64 → Int32 → (Nat → Int32) → (Nat → Int32) → (Nat → Int32) → Option (Int64 × Int64 × Int32 × Int32 × Int32 × Int32 × Int64 × Int64 × Int64 × Int32 × (Nat → Int32) × (Nat → Int32) × (Nat → Int32))) (hk40 : ∀ (m_ra m_rb : Int64) (m_threes m_primes m_ones m_unit : Int32) (m_allParts m_allNorms m_allClasses : Int64) (m_odd : Int32) (m_pa m_pb m_pNorm : Nat → Int32) (v5 : Int32) (H : Heap) (locs : List Loc) (ls : Array Slot), kx_H E D A H locs (wM T h m_taped m_states m_ra m_rb m_threes m_primes m_ones m_unit m_allParts m_allNorms m_allClasses m_odd m_boxWide m_boxHigh m_boxStep m_partingMany m_qa m_qb m_la m_lb m_sa m_sb m_ta m_tb m_listed m_tells m_wanted m_found m_bits m_power2 m_rings m_ringA m_ringB m_seedNow m_tape m_has m_keptHas m_first m_second m_keptFirst m_keptSecond m_pa m_pb m_pNorm m_cubed m_isOpen m_signs m_often m_la0 m_lb0) → lv_has ls 7 [(0, .ref (h 0)), (5, .int v5)] → k40 v5 m_ra m_rb m_threes m_primes m_ones m_unit m_allParts m_allNorms m_allClasses m_odd m_pa m_pb m_pNorm = some x → kx_W E H locs 40 ls []) : ∀ (k : Nat), ∀ (m_ra m_rb : Int64) (m_threes m_primes m_ones m_unit : Int32) (m_allParts m_allNorms m_allClasses : Int64) (m_odd : Int32) (m_pa m_pb m_pNorm : Nat → Int32) (v5 v6 : Int32) (H : Heap) (locs : List Loc) (ls : Array Slot), kx_H E D A H locs (wM T h m_taped m_states m_ra m_rb m_threes m_primes m_ones m_unit m_allParts m_allNorms m_allClasses m_odd m_boxWide m_boxHigh m_boxStep m_partingMany m_qa m_qb m_la m_lb m_sa m_sb m_ta m_tb m_listed m_tells m_wanted m_found m_bits m_power2 m_rings m_ringA m_ringB m_seedNow m_tape m_has m_keptHas m_first m_second m_keptFirst m_keptSecond m_pa m_pb m_pNorm m_cubed m_isOpen m_signs m_often m_la0 m_lb0) → lv_has ls 7 [(0, .ref (h 0)), (5, .int v5), (6, .int v6)] → f_X11_countsAll_52 N k40 k v5 v6 m_ra m_rb m_threes m_primes m_ones m_unit m_allParts m_allNorms m_allClasses m_odd m_pa m_pb m_pNorm = some x → kx_W E H locs 52 ls [] := by
  intro k
  induction k with
  | zero =>
    intro m_ra m_rb m_threes m_primes m_ones m_unit m_allParts m_allNorms m_allClasses m_odd m_pa m_pb m_pNorm v5 v6 H locs ls X hl hf
    cases (show (none : Option (Int64 × Int64 × Int32 × Int32 × Int32 × Int32 × Int64 × Int64 × Int64 × Int32 × (Nat → Int32) × (Nat → Int32) × (Nat → Int32))) = some x from hf)
  | succ k ih =>
    intro m_ra m_rb m_threes m_primes m_ones m_unit m_allParts m_allNorms m_allClasses m_odd m_pa m_pb m_pNorm v5 v6 H locs ls X hl hf
    rw [f_X11_countsAll_52] at hf
    refine x_iload 54 C dX11_countsAll_52 hl 1 rfl rfl ?_
    refine x_iload 56 C dX11_countsAll_54 hl 2 rfl rfl ?_
    refine x_iadd 57 C dX11_countsAll_56 rfl ?_
    refine x_aload_n 58 C dX11_countsAll_57 hl 0 rfl rfl ?_
    refine x_get 61 C dX11_countsAll_58 X kf_X11_201 0 rfl rfl rfl ?_
    refine x_icmp_ge 113 64 C dX11_countsAll_61 rfl rfl hf (fun hf => ?_) (fun hf => ?_)
    · exact w_X11_countsAll_113 h C N x m_taped m_states m_boxWide m_boxHigh m_boxStep m_partingMany m_qa m_qb m_la m_lb m_sa m_sb m_ta m_tb m_listed m_tells m_wanted m_found m_bits m_power2 m_rings m_ringA m_ringB m_seedNow m_tape m_has m_keptHas m_first m_second m_keptFirst m_keptSecond m_cubed m_isOpen m_signs m_often m_la0 m_lb0 R (k40) hk40 m_ra m_rb m_threes m_primes m_ones m_unit m_allParts m_allNorms m_allClasses m_odd m_pa m_pb m_pNorm v5 v6 _ _ _ X (lv_sub hl [0, 1, 2] rfl) hf
    refine x_aload_n 65 C dX11_countsAll_64 hl 0 rfl rfl ?_
    refine x_get 68 C dX11_countsAll_65 X kf_X11_33 0 rfl rfl rfl ?_
    refine x_iload 70 C dX11_countsAll_68 hl 1 rfl rfl ?_
    refine x_iload 72 C dX11_countsAll_70 hl 2 rfl rfl ?_
    refine x_iadd 73 C dX11_countsAll_72 rfl ?_
    refine x_iald 74 C dX11_countsAll_73 X 8 rfl hf rfl (fun hf => ?_)
    refine x_aload_n 75 C dX11_countsAll_74 hl 0 rfl rfl ?_
    refine x_get 78 C dX11_countsAll_75 X kf_X11_33 0 rfl rfl rfl ?_
    refine x_iload 80 C dX11_countsAll_78 hl 1 rfl rfl ?_
    refine x_iald 81 C dX11_countsAll_80 X 8 rfl hf rfl (fun hf => ?_)
    refine x_icmp_ne 113 84 C dX11_countsAll_81 rfl rfl hf (fun hf => ?_) (fun hf => ?_)
    · exact w_X11_countsAll_113 h C N x m_taped m_states m_boxWide m_boxHigh m_boxStep m_partingMany m_qa m_qb m_la m_lb m_sa m_sb m_ta m_tb m_listed m_tells m_wanted m_found m_bits m_power2 m_rings m_ringA m_ringB m_seedNow m_tape m_has m_keptHas m_first m_second m_keptFirst m_keptSecond m_cubed m_isOpen m_signs m_often m_la0 m_lb0 R (k40) hk40 m_ra m_rb m_threes m_primes m_ones m_unit m_allParts m_allNorms m_allClasses m_odd m_pa m_pb m_pNorm v5 v6 _ _ _ X (lv_sub hl [0, 1, 2] rfl) hf
    refine x_aload_n 85 C dX11_countsAll_84 hl 0 rfl rfl ?_
    refine x_get 88 C dX11_countsAll_85 X kf_X11_36 0 rfl rfl rfl ?_
    refine x_iload 90 C dX11_countsAll_88 hl 1 rfl rfl ?_
    refine x_iload 92 C dX11_countsAll_90 hl 2 rfl rfl ?_
    refine x_iadd 93 C dX11_countsAll_92 rfl ?_
    refine x_iald 94 C dX11_countsAll_93 X 9 rfl hf rfl (fun hf => ?_)
    refine x_aload_n 95 C dX11_countsAll_94 hl 0 rfl rfl ?_
    refine x_get 98 C dX11_countsAll_95 X kf_X11_36 0 rfl rfl rfl ?_
    refine x_iload 100 C dX11_countsAll_98 hl 1 rfl rfl ?_
    refine x_iald 101 C dX11_countsAll_100 X 9 rfl hf rfl (fun hf => ?_)
    refine x_icmp_ne 113 104 C dX11_countsAll_101 rfl rfl hf (fun hf => ?_) (fun hf => ?_)
    · exact w_X11_countsAll_113 h C N x m_taped m_states m_boxWide m_boxHigh m_boxStep m_partingMany m_qa m_qb m_la m_lb m_sa m_sb m_ta m_tb m_listed m_tells m_wanted m_found m_bits m_power2 m_rings m_ringA m_ringB m_seedNow m_tape m_has m_keptHas m_first m_second m_keptFirst m_keptSecond m_cubed m_isOpen m_signs m_often m_la0 m_lb0 R (k40) hk40 m_ra m_rb m_threes m_primes m_ones m_unit m_allParts m_allNorms m_allClasses m_odd m_pa m_pb m_pNorm v5 v6 _ _ _ X (lv_sub hl [0, 1, 2] rfl) hf
    refine x_iload 106 C dX11_countsAll_104 hl 2 rfl rfl ?_
    refine x_iconst 107 C dX11_countsAll_106 (1 : Int32) kv_iconst_1 rfl ?_
    refine x_iadd 108 C dX11_countsAll_107 rfl ?_
    refine x_istore 110 C dX11_countsAll_108 [(6, .int (v6 + (1 : Int32))), (0, .ref (h 0)), (5, .int v5)] hl rfl rfl rfl (fun ls hl => ?_)
    refine x_goto 52 C dX11_countsAll_110 rfl ?_
    exact ih m_ra m_rb m_threes m_primes m_ones m_unit m_allParts m_allNorms m_allClasses m_odd m_pa m_pb m_pNorm v5 (v6 + (1 : Int32)) _ _ _ X (lv_sub hl [1, 2, 0] rfl) hf
set_option maxHeartbeats 4000000 in
set_option maxRecDepth 100000 in
theorem w_X11_countsAll_40 {E : KE} {A : Nat → Prop} {D : va_G} {T : KT} (h : Nat → Nat) (C : kx_C E cX11_countsAll 7 none RX11 6 178 D T) (N : Nat) (x : Int64 × Int64 × Int32 × Int32 × Int32 × Int32 × Int64 × Int64 × Int64 × Int32 × (Nat → Int32) × (Nat → Int32) × (Nat → Int32)) (m_taped m_states : Int32) (m_boxWide m_boxHigh m_boxStep : Int64) (m_partingMany : Int32) (m_qa m_qb m_la m_lb m_sa m_sb m_ta m_tb : Int64) (m_listed m_tells m_wanted m_found : Int32) (m_bits : Int64) (m_power2 m_rings m_ringA m_ringB m_seedNow : Int32) (m_tape m_has m_keptHas m_first m_second m_keptFirst m_keptSecond m_cubed m_isOpen m_signs m_often m_la0 m_lb0 : Nat → Int32) (R : kx_RV E cX11_countsAll D A (wM T h m_taped m_states x.1 x.2.1 x.2.2.1 x.2.2.2.1 x.2.2.2.2.1 x.2.2.2.2.2.1 x.2.2.2.2.2.2.1 x.2.2.2.2.2.2.2.1 x.2.2.2.2.2.2.2.2.1 x.2.2.2.2.2.2.2.2.2.1 m_boxWide m_boxHigh m_boxStep m_partingMany m_qa m_qb m_la m_lb m_sa m_sb m_ta m_tb m_listed m_tells m_wanted m_found m_bits m_power2 m_rings m_ringA m_ringB m_seedNow m_tape m_has m_keptHas m_first m_second m_keptFirst m_keptSecond x.2.2.2.2.2.2.2.2.2.2.1 x.2.2.2.2.2.2.2.2.2.2.2.1 x.2.2.2.2.2.2.2.2.2.2.2.2 m_cubed m_isOpen m_signs m_often m_la0 m_lb0)) : ∀ (k : Nat), ∀ (m_ra m_rb : Int64) (m_threes m_primes m_ones m_unit : Int32) (m_allParts m_allNorms m_allClasses : Int64) (m_odd : Int32) (m_pa m_pb m_pNorm : Nat → Int32) (v5 : Int32) (H : Heap) (locs : List Loc) (ls : Array Slot), kx_H E D A H locs (wM T h m_taped m_states m_ra m_rb m_threes m_primes m_ones m_unit m_allParts m_allNorms m_allClasses m_odd m_boxWide m_boxHigh m_boxStep m_partingMany m_qa m_qb m_la m_lb m_sa m_sb m_ta m_tb m_listed m_tells m_wanted m_found m_bits m_power2 m_rings m_ringA m_ringB m_seedNow m_tape m_has m_keptHas m_first m_second m_keptFirst m_keptSecond m_pa m_pb m_pNorm m_cubed m_isOpen m_signs m_often m_la0 m_lb0) → lv_has ls 7 [(0, .ref (h 0)), (5, .int v5)] → f_X11_countsAll_40 N k v5 m_ra m_rb m_threes m_primes m_ones m_unit m_allParts m_allNorms m_allClasses m_odd m_pa m_pb m_pNorm = some x → kx_W E H locs 40 ls [] := by
  intro k
  induction k with
  | zero =>
    intro m_ra m_rb m_threes m_primes m_ones m_unit m_allParts m_allNorms m_allClasses m_odd m_pa m_pb m_pNorm v5 H locs ls X hl hf
    cases (show (none : Option (Int64 × Int64 × Int32 × Int32 × Int32 × Int32 × Int64 × Int64 × Int64 × Int32 × (Nat → Int32) × (Nat → Int32) × (Nat → Int32))) = some x from hf)
  | succ k ih =>
    intro m_ra m_rb m_threes m_primes m_ones m_unit m_allParts m_allNorms m_allClasses m_odd m_pa m_pb m_pNorm v5 H locs ls X hl hf
    rw [f_X11_countsAll_40] at hf
    refine x_iload 42 C dX11_countsAll_40 hl 1 rfl rfl ?_
    refine x_aload_n 43 C dX11_countsAll_42 hl 0 rfl rfl ?_
    refine x_get 46 C dX11_countsAll_43 X kf_X11_201 0 rfl rfl rfl ?_
    refine x_icmp_ge 137 49 C dX11_countsAll_46 rfl rfl hf (fun hf => ?_) (fun hf => ?_)
    · obtain rfl := Option.some.inj hf
      exact R _ _ _ _ X dX11_countsAll_137
    refine x_iconst 50 C dX11_countsAll_49 (1 : Int32) kv_iconst_1 rfl ?_
    refine x_istore 52 C dX11_countsAll_50 [(6, .int (1 : Int32)), (0, .ref (h 0)), (5, .int v5)] hl rfl rfl rfl (fun ls hl => ?_)
    exact w_X11_countsAll_52 h C N x m_taped m_states m_boxWide m_boxHigh m_boxStep m_partingMany m_qa m_qb m_la m_lb m_sa m_sb m_ta m_tb m_listed m_tells m_wanted m_found m_bits m_power2 m_rings m_ringA m_ringB m_seedNow m_tape m_has m_keptHas m_first m_second m_keptFirst m_keptSecond m_cubed m_isOpen m_signs m_often m_la0 m_lb0 R (f_X11_countsAll_40 N k) ih N m_ra m_rb m_threes m_primes m_ones m_unit m_allParts m_allNorms m_allClasses m_odd m_pa m_pb m_pNorm v5 (1 : Int32) _ _ _ X (lv_sub hl [1, 2, 0] rfl) hf
set_option maxHeartbeats 4000000 in
set_option maxRecDepth 100000 in
theorem c_X11_countsAll (l : Launch) (D : va_G) (T : KT) (h : Nat → Nat) (N : Nat) (v1 v3 : Int64) (m_taped m_states : Int32) (m_ra m_rb : Int64) (m_threes m_primes m_ones m_unit : Int32) (m_allParts m_allNorms m_allClasses : Int64) (m_odd : Int32) (m_boxWide m_boxHigh m_boxStep : Int64) (m_partingMany : Int32) (m_qa m_qb m_la m_lb m_sa m_sb m_ta m_tb : Int64) (m_listed m_tells m_wanted m_found : Int32) (m_bits : Int64) (m_power2 m_rings m_ringA m_ringB m_seedNow : Int32) (m_tape m_has m_keptHas m_first m_second m_keptFirst m_keptSecond m_pa m_pb m_pNorm m_cubed m_isOpen m_signs m_often m_la0 m_lb0 : Nat → Int32) (x : Int64 × Int64 × Int32 × Int32 × Int32 × Int32 × Int64 × Int64 × Int64 × Int32 × (Nat → Int32) × (Nat → Int32) × (Nat → Int32)) (hf : f_X11_countsAll N v1 v3 m_pa m_pb m_pNorm = some x) : kx_MV l yX11_countsAll cX11_countsAll 7 none 6 178 D T [.ref (h 0), .long v1, .long v3] (wM T h m_taped m_states m_ra m_rb m_threes m_primes m_ones m_unit m_allParts m_allNorms m_allClasses m_odd m_boxWide m_boxHigh m_boxStep m_partingMany m_qa m_qb m_la m_lb m_sa m_sb m_ta m_tb m_listed m_tells m_wanted m_found m_bits m_power2 m_rings m_ringA m_ringB m_seedNow m_tape m_has m_keptHas m_first m_second m_keptFirst m_keptSecond m_pa m_pb m_pNorm m_cubed m_isOpen m_signs m_often m_la0 m_lb0) (wM T h m_taped m_states x.1 x.2.1 x.2.2.1 x.2.2.2.1 x.2.2.2.2.1 x.2.2.2.2.2.1 x.2.2.2.2.2.2.1 x.2.2.2.2.2.2.2.1 x.2.2.2.2.2.2.2.2.1 x.2.2.2.2.2.2.2.2.2.1 m_boxWide m_boxHigh m_boxStep m_partingMany m_qa m_qb m_la m_lb m_sa m_sb m_ta m_tb m_listed m_tells m_wanted m_found m_bits m_power2 m_rings m_ringA m_ringB m_seedNow m_tape m_has m_keptHas m_first m_second m_keptFirst m_keptSecond x.2.2.2.2.2.2.2.2.2.2.1 x.2.2.2.2.2.2.2.2.2.2.2.1 x.2.2.2.2.2.2.2.2.2.2.2.2 m_cubed m_isOpen m_signs m_often m_la0 m_lb0) := by
  refine kx_ofMV RX11 rfl (plainFor_of_name (x := yX11_countsAll) kpn_X11) rfl ?_
  intro E A H ls _ C X R hl
  have hl : lv_has ls 7 [(0, .ref (h 0)), (1, .long v1), (3, .long v3)] := hl
  rw [f_X11_countsAll] at hf
  refine x_aload_n 1 C dX11_countsAll_0 hl 0 rfl rfl ?_
  refine x_lload_n 2 C dX11_countsAll_1 hl 1 rfl rfl ?_
  refine x_lload_n 3 C dX11_countsAll_2 hl 2 rfl rfl ?_
  obtain ⟨y3, hy3, hf⟩ := kx_bind hf
  refine x_callVv0 6 C dX11_countsAll_3 X hl kl_X11_222 (c_X11_writes E.2.1 D T h N v1 v3 m_taped m_states m_ra m_rb m_threes m_primes m_ones m_unit m_allParts m_allNorms m_allClasses m_odd m_boxWide m_boxHigh m_boxStep m_partingMany m_qa m_qb m_la m_lb m_sa m_sb m_ta m_tb m_listed m_tells m_wanted m_found m_bits m_power2 m_rings m_ringA m_ringB m_seedNow m_tape m_has m_keptHas m_first m_second m_keptFirst m_keptSecond m_pa m_pb m_pNorm m_cubed m_isOpen m_signs m_often m_la0 m_lb0 y3 hy3) rfl rfl [] rfl rfl rfl rfl rfl rfl (fun H locs X => ?_)
  refine x_aload_n 7 C dX11_countsAll_6 hl 0 rfl rfl ?_
  refine x_lconst 8 C dX11_countsAll_7 (1 : Int64) kv_lconst_1 rfl ?_
  refine x_put 11 C dX11_countsAll_8 X kp_X11_228 0 rfl rfl rfl rfl (wM T h m_taped m_states y3.1 y3.2.1 y3.2.2.1 y3.2.2.2.1 y3.2.2.2.2.1 y3.2.2.2.2.2.1 (1 : Int64) m_allNorms m_allClasses m_odd m_boxWide m_boxHigh m_boxStep m_partingMany m_qa m_qb m_la m_lb m_sa m_sb m_ta m_tb m_listed m_tells m_wanted m_found m_bits m_power2 m_rings m_ringA m_ringB m_seedNow m_tape m_has m_keptHas m_first m_second m_keptFirst m_keptSecond y3.2.2.2.2.2.2.1 y3.2.2.2.2.2.2.2.1 y3.2.2.2.2.2.2.2.2 m_cubed m_isOpen m_signs m_often m_la0 m_lb0) rfl rfl (fun H locs X => ?_)
  refine x_aload_n 12 C dX11_countsAll_11 hl 0 rfl rfl ?_
  refine x_lconst 13 C dX11_countsAll_12 (1 : Int64) kv_lconst_1 rfl ?_
  refine x_put 16 C dX11_countsAll_13 X kp_X11_231 0 rfl rfl rfl rfl (wM T h m_taped m_states y3.1 y3.2.1 y3.2.2.1 y3.2.2.2.1 y3.2.2.2.2.1 y3.2.2.2.2.2.1 (1 : Int64) (1 : Int64) m_allClasses m_odd m_boxWide m_boxHigh m_boxStep m_partingMany m_qa m_qb m_la m_lb m_sa m_sb m_ta m_tb m_listed m_tells m_wanted m_found m_bits m_power2 m_rings m_ringA m_ringB m_seedNow m_tape m_has m_keptHas m_first m_second m_keptFirst m_keptSecond y3.2.2.2.2.2.2.1 y3.2.2.2.2.2.2.2.1 y3.2.2.2.2.2.2.2.2 m_cubed m_isOpen m_signs m_often m_la0 m_lb0) rfl rfl (fun H locs X => ?_)
  refine x_aload_n 17 C dX11_countsAll_16 hl 0 rfl rfl ?_
  refine x_lconst 18 C dX11_countsAll_17 (1 : Int64) kv_lconst_1 rfl ?_
  refine x_put 21 C dX11_countsAll_18 X kp_X11_225 0 rfl rfl rfl rfl (wM T h m_taped m_states y3.1 y3.2.1 y3.2.2.1 y3.2.2.2.1 y3.2.2.2.2.1 y3.2.2.2.2.2.1 (1 : Int64) (1 : Int64) (1 : Int64) m_odd m_boxWide m_boxHigh m_boxStep m_partingMany m_qa m_qb m_la m_lb m_sa m_sb m_ta m_tb m_listed m_tells m_wanted m_found m_bits m_power2 m_rings m_ringA m_ringB m_seedNow m_tape m_has m_keptHas m_first m_second m_keptFirst m_keptSecond y3.2.2.2.2.2.2.1 y3.2.2.2.2.2.2.2.1 y3.2.2.2.2.2.2.2.2 m_cubed m_isOpen m_signs m_often m_la0 m_lb0) rfl rfl (fun H locs X => ?_)
  refine x_aload_n 22 C dX11_countsAll_21 hl 0 rfl rfl ?_
  refine x_iconst 23 C dX11_countsAll_22 (1 : Int32) kv_iconst_1 rfl ?_
  refine x_put 26 C dX11_countsAll_23 X kp_X11_234 0 rfl rfl rfl rfl (wM T h m_taped m_states y3.1 y3.2.1 y3.2.2.1 y3.2.2.2.1 y3.2.2.2.2.1 y3.2.2.2.2.2.1 (1 : Int64) (1 : Int64) (1 : Int64) (1 : Int32) m_boxWide m_boxHigh m_boxStep m_partingMany m_qa m_qb m_la m_lb m_sa m_sb m_ta m_tb m_listed m_tells m_wanted m_found m_bits m_power2 m_rings m_ringA m_ringB m_seedNow m_tape m_has m_keptHas m_first m_second m_keptFirst m_keptSecond y3.2.2.2.2.2.2.1 y3.2.2.2.2.2.2.2.1 y3.2.2.2.2.2.2.2.2 m_cubed m_isOpen m_signs m_often m_la0 m_lb0) rfl rfl (fun H locs X => ?_)
  refine x_aload_n 27 C dX11_countsAll_26 hl 0 rfl rfl ?_
  refine x_ldc2_w 30 C dX11_countsAll_27 (3 : Int64) kc_X11_134 rfl ?_
  refine x_aload_n 31 C dX11_countsAll_30 hl 0 rfl rfl ?_
  refine x_get 34 C dX11_countsAll_31 X kf_X11_204 0 rfl rfl rfl ?_
  obtain ⟨y34, hy34, hf⟩ := kx_bind hf
  refine x_callVv0 37 C dX11_countsAll_34 X hl kl_X11_237 (c_X11_counts E.2.1 D T h N (3 : Int64) y3.2.2.2.2.1 m_taped m_states y3.1 y3.2.1 y3.2.2.1 y3.2.2.2.1 y3.2.2.2.2.1 y3.2.2.2.2.2.1 (1 : Int64) (1 : Int64) (1 : Int64) (1 : Int32) m_boxWide m_boxHigh m_boxStep m_partingMany m_qa m_qb m_la m_lb m_sa m_sb m_ta m_tb m_listed m_tells m_wanted m_found m_bits m_power2 m_rings m_ringA m_ringB m_seedNow m_tape m_has m_keptHas m_first m_second m_keptFirst m_keptSecond y3.2.2.2.2.2.2.1 y3.2.2.2.2.2.2.2.1 y3.2.2.2.2.2.2.2.2 m_cubed m_isOpen m_signs m_often m_la0 m_lb0 y34 hy34) rfl rfl [] rfl rfl rfl rfl rfl rfl (fun H locs X => ?_)
  refine x_iconst 38 C dX11_countsAll_37 (0 : Int32) kv_iconst_0 rfl ?_
  refine x_istore 40 C dX11_countsAll_38 [(5, .int (0 : Int32)), (0, .ref (h 0)), (1, .long v1), (3, .long v3)] hl rfl rfl rfl (fun ls hl => ?_)
  exact w_X11_countsAll_40 h C N x m_taped m_states m_boxWide m_boxHigh m_boxStep m_partingMany m_qa m_qb m_la m_lb m_sa m_sb m_ta m_tb m_listed m_tells m_wanted m_found m_bits m_power2 m_rings m_ringA m_ringB m_seedNow m_tape m_has m_keptHas m_first m_second m_keptFirst m_keptSecond m_cubed m_isOpen m_signs m_often m_la0 m_lb0 R  N y3.1 y3.2.1 y3.2.2.1 y3.2.2.2.1 y3.2.2.2.2.1 y3.2.2.2.2.2.1 y34.1 y34.2.1 y34.2.2.1 y34.2.2.2 y3.2.2.2.2.2.2.1 y3.2.2.2.2.2.2.2.1 y3.2.2.2.2.2.2.2.2 (0 : Int32) _ _ _ X (lv_sub hl [1, 0] rfl) hf
set_option maxHeartbeats 4000000 in
set_option maxRecDepth 100000 in
theorem c_X11_divisors (l : Launch) (D : va_G) (T : KT) (h : Nat → Nat) (N : Nat) (v1 v2 : Int32) (m_taped m_states : Int32) (m_ra m_rb : Int64) (m_threes m_primes m_ones m_unit : Int32) (m_allParts m_allNorms m_allClasses : Int64) (m_odd : Int32) (m_boxWide m_boxHigh m_boxStep : Int64) (m_partingMany : Int32) (m_qa m_qb m_la m_lb m_sa m_sb m_ta m_tb : Int64) (m_listed m_tells m_wanted m_found : Int32) (m_bits : Int64) (m_power2 m_rings m_ringA m_ringB m_seedNow : Int32) (m_tape m_has m_keptHas m_first m_second m_keptFirst m_keptSecond m_pa m_pb m_pNorm m_cubed m_isOpen m_signs m_often m_la0 m_lb0 : Nat → Int32) (x : Int64 × Int64 × Int64 × Int32 × Int32 × Int32 × Int32 × Int64 × Int64 × Int64 × Int32 × (Nat → Int32) × (Nat → Int32) × (Nat → Int32)) (hf : f_X11_divisors N v1 v2 m_ra m_rb m_threes m_primes m_ones m_unit m_allParts m_allNorms m_allClasses m_odd m_has m_first m_second m_pa m_pb m_pNorm = some x) : kx_ML l yX11_divisors cX11_divisors 3 (some .long) 7 204 D T [.ref (h 0), .int v1, .int v2] (wM T h m_taped m_states m_ra m_rb m_threes m_primes m_ones m_unit m_allParts m_allNorms m_allClasses m_odd m_boxWide m_boxHigh m_boxStep m_partingMany m_qa m_qb m_la m_lb m_sa m_sb m_ta m_tb m_listed m_tells m_wanted m_found m_bits m_power2 m_rings m_ringA m_ringB m_seedNow m_tape m_has m_keptHas m_first m_second m_keptFirst m_keptSecond m_pa m_pb m_pNorm m_cubed m_isOpen m_signs m_often m_la0 m_lb0) (wM T h m_taped m_states x.2.1 x.2.2.1 x.2.2.2.1 x.2.2.2.2.1 x.2.2.2.2.2.1 x.2.2.2.2.2.2.1 x.2.2.2.2.2.2.2.1 x.2.2.2.2.2.2.2.2.1 x.2.2.2.2.2.2.2.2.2.1 x.2.2.2.2.2.2.2.2.2.2.1 m_boxWide m_boxHigh m_boxStep m_partingMany m_qa m_qb m_la m_lb m_sa m_sb m_ta m_tb m_listed m_tells m_wanted m_found m_bits m_power2 m_rings m_ringA m_ringB m_seedNow m_tape m_has m_keptHas m_first m_second m_keptFirst m_keptSecond x.2.2.2.2.2.2.2.2.2.2.2.1 x.2.2.2.2.2.2.2.2.2.2.2.2.1 x.2.2.2.2.2.2.2.2.2.2.2.2.2 m_cubed m_isOpen m_signs m_often m_la0 m_lb0) x.1 := by
  refine kx_ofML RX11 rfl (plainFor_of_name (x := yX11_divisors) kpn_X11) rfl ?_
  intro E A H ls _ C X R hl
  have hl : lv_has ls 3 [(0, .ref (h 0)), (1, .int v1), (2, .int v2)] := hl
  rw [f_X11_divisors] at hf
  refine x_iload_n 1 C dX11_divisors_0 hl 1 rfl rfl ?_
  obtain ⟨y1, hy1, hf⟩ := kx_bind hf
  refine x_callSi 4 C dX11_divisors_1 X hl kl_X11_85 (c_X11_isDrawer E.2.1 D T  v1  y1 hy1) [] rfl rfl rfl rfl rfl cb_7 rfl (fun H locs X => ?_)
  refine x_if_eq 36 7 C dX11_divisors_4 rfl rfl hf (fun hf => ?_) (fun hf => ?_)
  · refine x_ldc2_w 39 C dX11_divisors_36 (-9223372036854775808 : Int64) kc_X11_241 rfl ?_
    obtain rfl := Option.some.inj hf
    exact R _ _ _ _ X dX11_divisors_39
  refine x_aload_n 8 C dX11_divisors_7 hl 0 rfl rfl ?_
  refine x_get 11 C dX11_divisors_8 X kf_X11_13 0 rfl rfl rfl ?_
  refine x_iload_n 12 C dX11_divisors_11 hl 1 rfl rfl ?_
  refine x_zald 13 C dX11_divisors_12 X 2 rfl hf rfl (fun hf => ?_)
  refine x_if_eq 36 16 C dX11_divisors_13 rfl rfl hf (fun hf => ?_) (fun hf => ?_)
  · refine x_ldc2_w 39 C dX11_divisors_36 (-9223372036854775808 : Int64) kc_X11_241 rfl ?_
    obtain rfl := Option.some.inj hf
    exact R _ _ _ _ X dX11_divisors_39
  refine x_aload_n 17 C dX11_divisors_16 hl 0 rfl rfl ?_
  refine x_iload_n 18 C dX11_divisors_17 hl 1 rfl rfl ?_
  obtain ⟨y18, hy18, hf⟩ := kx_bind hf
  refine x_callVi0 21 C dX11_divisors_18 X hl kl_X11_178 (c_X11_isNothing E.2.1 D T h v1 m_taped m_states m_ra m_rb m_threes m_primes m_ones m_unit m_allParts m_allNorms m_allClasses m_odd m_boxWide m_boxHigh m_boxStep m_partingMany m_qa m_qb m_la m_lb m_sa m_sb m_ta m_tb m_listed m_tells m_wanted m_found m_bits m_power2 m_rings m_ringA m_ringB m_seedNow m_tape m_has m_keptHas m_first m_second m_keptFirst m_keptSecond m_pa m_pb m_pNorm m_cubed m_isOpen m_signs m_often m_la0 m_lb0 y18 hy18) rfl rfl [] rfl rfl rfl rfl rfl rfl (fun H locs X => ?_)
  refine x_if_ne 36 24 C dX11_divisors_21 rfl rfl hf (fun hf => ?_) (fun hf => ?_)
  · refine x_ldc2_w 39 C dX11_divisors_36 (-9223372036854775808 : Int64) kc_X11_241 rfl ?_
    obtain rfl := Option.some.inj hf
    exact R _ _ _ _ X dX11_divisors_39
  refine x_iload_n 25 C dX11_divisors_24 hl 2 rfl rfl ?_
  refine x_i2l 26 C dX11_divisors_25 rfl ?_
  refine x_lconst 27 C dX11_divisors_26 (0 : Int64) kv_lconst_0 rfl ?_
  refine x_ldc2_w 30 C dX11_divisors_27 (3 : Int64) kc_X11_134 rfl ?_
  obtain ⟨y30, hy30, hf⟩ := kx_bind hf
  refine x_callSi 33 C dX11_divisors_30 X hl kl_X11_77 (c_X11_in E.2.1 D T  (v2).toInt64 (0 : Int64) (3 : Int64)  y30 hy30) [] rfl rfl rfl rfl rfl cb_7 rfl (fun H locs X => ?_)
  refine x_if_ne 40 36 C dX11_divisors_33 rfl rfl hf (fun hf => ?_) (fun hf => ?_)
  · refine x_aload_n 41 C dX11_divisors_40 hl 0 rfl rfl ?_
    refine x_aload_n 42 C dX11_divisors_41 hl 0 rfl rfl ?_
    refine x_get 45 C dX11_divisors_42 X kf_X11_20 0 rfl rfl rfl ?_
    refine x_iload_n 46 C dX11_divisors_45 hl 1 rfl rfl ?_
    refine x_iald 47 C dX11_divisors_46 X 4 rfl hf rfl (fun hf => ?_)
    refine x_i2l 48 C dX11_divisors_47 rfl ?_
    refine x_aload_n 49 C dX11_divisors_48 hl 0 rfl rfl ?_
    refine x_get 52 C dX11_divisors_49 X kf_X11_24 0 rfl rfl rfl ?_
    refine x_iload_n 53 C dX11_divisors_52 hl 1 rfl rfl ?_
    refine x_iald 54 C dX11_divisors_53 X 5 rfl hf rfl (fun hf => ?_)
    refine x_i2l 55 C dX11_divisors_54 rfl ?_
    obtain ⟨y55, hy55, hf⟩ := kx_bind hf
    refine x_callVv0 58 C dX11_divisors_55 X hl kl_X11_243 (c_X11_countsAll E.2.1 D T h N ((m_first (v1).toNatClampNeg)).toInt64 ((m_second (v1).toNatClampNeg)).toInt64 m_taped m_states m_ra m_rb m_threes m_primes m_ones m_unit m_allParts m_allNorms m_allClasses m_odd m_boxWide m_boxHigh m_boxStep m_partingMany m_qa m_qb m_la m_lb m_sa m_sb m_ta m_tb m_listed m_tells m_wanted m_found m_bits m_power2 m_rings m_ringA m_ringB m_seedNow m_tape m_has m_keptHas m_first m_second m_keptFirst m_keptSecond m_pa m_pb m_pNorm m_cubed m_isOpen m_signs m_often m_la0 m_lb0 y55 hy55) rfl rfl [] rfl rfl rfl rfl rfl rfl (fun H locs X => ?_)
    refine x_iload_n 59 C dX11_divisors_58 hl 2 rfl rfl ?_
    refine x_if_ne 69 62 C dX11_divisors_59 rfl rfl hf (fun hf => ?_) (fun hf => ?_)
    · refine x_iload_n 70 C dX11_divisors_69 hl 2 rfl rfl ?_
      refine x_iconst 71 C dX11_divisors_70 (1 : Int32) kv_iconst_1 rfl ?_
      refine x_icmp_ne 81 74 C dX11_divisors_71 rfl rfl hf (fun hf => ?_) (fun hf => ?_)
      · refine x_iload_n 82 C dX11_divisors_81 hl 2 rfl rfl ?_
        refine x_iconst 83 C dX11_divisors_82 (2 : Int32) kv_iconst_2 rfl ?_
        refine x_icmp_ne 93 86 C dX11_divisors_83 rfl rfl hf (fun hf => ?_) (fun hf => ?_)
        · refine x_aload_n 94 C dX11_divisors_93 hl 0 rfl rfl ?_
          refine x_get 97 C dX11_divisors_94 X kf_X11_234 0 rfl rfl rfl ?_
          refine x_i2l 98 C dX11_divisors_97 rfl ?_
          obtain rfl := Option.some.inj hf
          exact R _ _ _ _ X dX11_divisors_98
        refine x_aload_n 87 C dX11_divisors_86 hl 0 rfl rfl ?_
        refine x_get 90 C dX11_divisors_87 X kf_X11_225 0 rfl rfl rfl ?_
        refine x_goto 98 C dX11_divisors_90 rfl ?_
        obtain rfl := Option.some.inj hf
        exact R _ _ _ _ X dX11_divisors_98
      refine x_aload_n 75 C dX11_divisors_74 hl 0 rfl rfl ?_
      refine x_get 78 C dX11_divisors_75 X kf_X11_231 0 rfl rfl rfl ?_
      refine x_goto 98 C dX11_divisors_78 rfl ?_
      obtain rfl := Option.some.inj hf
      exact R _ _ _ _ X dX11_divisors_98
    refine x_aload_n 63 C dX11_divisors_62 hl 0 rfl rfl ?_
    refine x_get 66 C dX11_divisors_63 X kf_X11_228 0 rfl rfl rfl ?_
    refine x_goto 98 C dX11_divisors_66 rfl ?_
    obtain rfl := Option.some.inj hf
    exact R _ _ _ _ X dX11_divisors_98
  refine x_ldc2_w 39 C dX11_divisors_36 (-9223372036854775808 : Int64) kc_X11_241 rfl ?_
  obtain rfl := Option.some.inj hf
  exact R _ _ _ _ X dX11_divisors_39
set_option maxHeartbeats 4000000 in
set_option maxRecDepth 100000 in
theorem c_X10_bearsSigns (l : Launch) (D : va_G) (T : KT) (h0 : Nat)  (m_p0_a m_p0_b : Int64) (x : Int32) (hf : f_X10_bearsSigns m_p0_a m_p0_b = some x) : kx_MI l yX10_bearsSigns cX10_bearsSigns 1 (some .boolean) 2 40 D T [.ref h0] (w29_ T h0 m_p0_a m_p0_b) (w29_ T h0 m_p0_a m_p0_b) x := by
  refine kx_ofMZ RX10 rfl (plainFor_of_name (x := yX10_bearsSigns) kpn_X10) rfl ?_
  intro E A H ls _ C X R hl
  have hl : lv_has ls 1 [(0, .ref h0)] := hl
  rw [f_X10_bearsSigns] at hf
  refine x_aload_n 1 C dX10_bearsSigns_0 hl 0 rfl rfl ?_
  obtain ⟨y1, hy1, hf⟩ := kx_bind hf
  refine x_callVi 4 C dX10_bearsSigns_1 X hl kl_X10_156 (c_X5_isOfThree E.2.1 D T h0  m_p0_a m_p0_b y1 hy1) rfl rfl [] rfl rfl rfl rfl rfl cb_75 rfl (fun H locs X => ?_)
  refine x_if_ne 18 7 C dX10_bearsSigns_4 rfl rfl hf (fun hf => ?_) (fun hf => ?_)
  · refine x_iconst 19 C dX10_bearsSigns_18 (0 : Int32) kv_iconst_0 rfl ?_
    obtain rfl := Option.some.inj hf
    exact R _ _ _ _ X kb_0 dX10_bearsSigns_19
  refine x_aload_n 8 C dX10_bearsSigns_7 hl 0 rfl rfl ?_
  obtain ⟨y8, hy8, hf⟩ := kx_bind hf
  refine x_callVi 11 C dX10_bearsSigns_8 X hl kl_X10_382 (c_X5_isUnit E.2.1 D T h0  m_p0_a m_p0_b y8 hy8) rfl rfl [] rfl rfl rfl rfl rfl cb_75 rfl (fun H locs X => ?_)
  refine x_if_ne 18 14 C dX10_bearsSigns_11 rfl rfl hf (fun hf => ?_) (fun hf => ?_)
  · refine x_iconst 19 C dX10_bearsSigns_18 (0 : Int32) kv_iconst_0 rfl ?_
    obtain rfl := Option.some.inj hf
    exact R _ _ _ _ X kb_0 dX10_bearsSigns_19
  refine x_iconst 15 C dX10_bearsSigns_14 (1 : Int32) kv_iconst_1 rfl ?_
  refine x_goto 19 C dX10_bearsSigns_15 rfl ?_
  obtain rfl := Option.some.inj hf
  exact R _ _ _ _ X kb_1 dX10_bearsSigns_19
set_option maxHeartbeats 4000000 in
set_option maxRecDepth 100000 in
theorem w_X9_inverseBy_27 {E : KE} {A : Nat → Prop} {D : va_G} {T : KT}  (C : kx_C E cX9_inverseBy 19 (some .long) RX9 1 25 D T) (N : Nat) (x : Int64)  (R : kx_RL E cX9_inverseBy D A (w4_ T  ) x) : ∀ (k : Nat), ∀  (v2 v4 v6 v8 v10 : Int64) (v12 : Int32) (H : Heap) (locs : List Loc) (ls : Array Slot), kx_H E D A H locs (w4_ T  ) → lv_has ls 19 [(2, .long v2), (4, .long v4), (6, .long v6), (8, .long v8), (10, .long v10), (12, .int v12)] → f_X9_inverseBy_27 N k v2 v4 v6 v8 v10 v12 = some x → kx_W E H locs 27 ls [] := by
  intro k
  induction k with
  | zero =>
    intro v2 v4 v6 v8 v10 v12 H locs ls X hl hf
    cases (show (none : Option (Int64)) = some x from hf)
  | succ k ih =>
    intro v2 v4 v6 v8 v10 v12 H locs ls X hl hf
    rw [f_X9_inverseBy_27] at hf
    refine x_iload 29 C dX9_inverseBy_27 hl 5 rfl rfl ?_
    refine x_bipush 31 C dX9_inverseBy_29 (100 : Int32) kv_bipush_100 rfl ?_
    refine x_icmp_ge 90 34 C dX9_inverseBy_31 rfl rfl hf (fun hf => ?_) (fun hf => ?_)
    · refine x_lload 92 C dX9_inverseBy_90 hl 3 rfl rfl ?_
      refine x_lload_n 93 C dX9_inverseBy_92 hl 0 rfl rfl ?_
      obtain ⟨y93, hy93, hf⟩ := kx_bind hf
      refine x_callSl0 96 C dX9_inverseBy_93 X hl kl_X9_15 (c_J9_floorMod_f86c9 E.2.1 D T  v8 v2  y93 hy93) [] rfl rfl rfl rfl rfl rfl (fun H locs X => ?_)
      obtain rfl := Option.some.inj hf
      exact R _ _ _ _ X dX9_inverseBy_96
    refine x_lload 36 C dX9_inverseBy_34 hl 2 rfl rfl ?_
    refine x_lconst 37 C dX9_inverseBy_36 (0 : Int64) kv_lconst_0 rfl ?_
    refine x_lcmp_eq 90 38 41 C dX9_inverseBy_37 dX9_inverseBy_38 rfl rfl rfl hf (fun hf => ?_) (fun hf => ?_)
    · refine x_lload 92 C dX9_inverseBy_90 hl 3 rfl rfl ?_
      refine x_lload_n 93 C dX9_inverseBy_92 hl 0 rfl rfl ?_
      obtain ⟨y93, hy93, hf⟩ := kx_bind hf
      refine x_callSl0 96 C dX9_inverseBy_93 X hl kl_X9_15 (c_J9_floorMod_f86c9 E.2.1 D T  v8 v2  y93 hy93) [] rfl rfl rfl rfl rfl rfl (fun H locs X => ?_)
      obtain rfl := Option.some.inj hf
      exact R _ _ _ _ X dX9_inverseBy_96
    refine x_lload 43 C dX9_inverseBy_41 hl 1 rfl rfl ?_
    refine x_lload 45 C dX9_inverseBy_43 hl 2 rfl rfl ?_
    refine x_ldiv 46 C dX9_inverseBy_45 hf rfl (fun hf => ?_)
    refine x_lstore 48 C dX9_inverseBy_46 [(13, .long (v4 / v6)), (2, .long v2), (4, .long v4), (6, .long v6), (8, .long v8), (10, .long v10), (12, .int v12)] hl rfl rfl rfl (fun ls hl => ?_)
    refine x_lload 50 C dX9_inverseBy_48 hl 2 rfl rfl ?_
    refine x_lload 52 C dX9_inverseBy_50 hl 0 rfl rfl ?_
    refine x_lload 54 C dX9_inverseBy_52 hl 3 rfl rfl ?_
    refine x_lmul 55 C dX9_inverseBy_54 rfl ?_
    refine x_lsub 56 C dX9_inverseBy_55 rfl ?_
    refine x_lstore 58 C dX9_inverseBy_56 [(15, .long (v4 - ((v4 / v6) * v6))), (13, .long (v4 / v6)), (2, .long v2), (4, .long v4), (6, .long v6), (8, .long v8), (10, .long v10), (12, .int v12)] hl rfl rfl rfl (fun ls hl => ?_)
    refine x_lload 60 C dX9_inverseBy_58 hl 4 rfl rfl ?_
    refine x_lstore 62 C dX9_inverseBy_60 [(4, .long v6), (15, .long (v4 - ((v4 / v6) * v6))), (13, .long (v4 / v6)), (2, .long v2), (6, .long v6), (8, .long v8), (10, .long v10), (12, .int v12)] hl rfl rfl rfl (fun ls hl => ?_)
    refine x_lload 64 C dX9_inverseBy_62 hl 1 rfl rfl ?_
    refine x_lstore 66 C dX9_inverseBy_64 [(6, .long (v4 - ((v4 / v6) * v6))), (4, .long v6), (15, .long (v4 - ((v4 / v6) * v6))), (13, .long (v4 / v6)), (2, .long v2), (8, .long v8), (10, .long v10), (12, .int v12)] hl rfl rfl rfl (fun ls hl => ?_)
    refine x_lload 68 C dX9_inverseBy_66 hl 5 rfl rfl ?_
    refine x_lload 70 C dX9_inverseBy_68 hl 3 rfl rfl ?_
    refine x_lload 72 C dX9_inverseBy_70 hl 6 rfl rfl ?_
    refine x_lmul 73 C dX9_inverseBy_72 rfl ?_
    refine x_lsub 74 C dX9_inverseBy_73 rfl ?_
    refine x_lstore 76 C dX9_inverseBy_74 [(17, .long (v8 - ((v4 / v6) * v10))), (6, .long (v4 - ((v4 / v6) * v6))), (4, .long v6), (15, .long (v4 - ((v4 / v6) * v6))), (13, .long (v4 / v6)), (2, .long v2), (8, .long v8), (10, .long v10), (12, .int v12)] hl rfl rfl rfl (fun ls hl => ?_)
    refine x_lload 78 C dX9_inverseBy_76 hl 7 rfl rfl ?_
    refine x_lstore 80 C dX9_inverseBy_78 [(8, .long v10), (17, .long (v8 - ((v4 / v6) * v10))), (6, .long (v4 - ((v4 / v6) * v6))), (4, .long v6), (15, .long (v4 - ((v4 / v6) * v6))), (13, .long (v4 / v6)), (2, .long v2), (10, .long v10), (12, .int v12)] hl rfl rfl rfl (fun ls hl => ?_)
    refine x_lload 82 C dX9_inverseBy_80 hl 1 rfl rfl ?_
    refine x_lstore 84 C dX9_inverseBy_82 [(10, .long (v8 - ((v4 / v6) * v10))), (8, .long v10), (17, .long (v8 - ((v4 / v6) * v10))), (6, .long (v4 - ((v4 / v6) * v6))), (4, .long v6), (15, .long (v4 - ((v4 / v6) * v6))), (13, .long (v4 / v6)), (2, .long v2), (12, .int v12)] hl rfl rfl rfl (fun ls hl => ?_)
    refine x_iinc 87 C dX9_inverseBy_84 (1 : Int32) kv_iconst_1 [(12, .int (v12 + (1 : Int32))), (10, .long (v8 - ((v4 / v6) * v10))), (8, .long v10), (17, .long (v8 - ((v4 / v6) * v10))), (6, .long (v4 - ((v4 / v6) * v6))), (4, .long v6), (15, .long (v4 - ((v4 / v6) * v6))), (13, .long (v4 / v6)), (2, .long v2)] hl 8 rfl rfl rfl rfl (fun ls hl => ?_)
    refine x_goto 27 C dX9_inverseBy_87 rfl ?_
    exact ih v2 v6 (v4 - ((v4 / v6) * v6)) v10 (v8 - ((v4 / v6) * v10)) (v12 + (1 : Int32)) _ _ _ X (lv_sub hl [8, 5, 4, 2, 1, 0] rfl) hf
set_option maxHeartbeats 4000000 in
set_option maxRecDepth 100000 in
theorem c_X9_inverseBy (l : Launch) (D : va_G) (T : KT)  (N : Nat) (v0 v2 : Int64)  (x : Int64) (hf : f_X9_inverseBy N v0 v2 = some x) : kx_ML l yX9_inverseBy cX9_inverseBy 19 (some .long) 1 25 D T [.long v0, .long v2] (w4_ T  ) (w4_ T  ) x := by
  refine kx_ofML RX9 rfl (plainFor_of_name (x := yX9_inverseBy) kpn_X9) rfl ?_
  intro E A H ls _ C X R hl
  have hl : lv_has ls 19 [(0, .long v0), (2, .long v2)] := hl
  rw [f_X9_inverseBy] at hf
  refine x_lload_n 1 C dX9_inverseBy_0 hl 1 rfl rfl ?_
  refine x_lconst 2 C dX9_inverseBy_1 (1 : Int64) kv_lconst_1 rfl ?_
  refine x_lcmp_ge 8 3 6 C dX9_inverseBy_2 dX9_inverseBy_3 rfl rfl rfl hf (fun hf => ?_) (fun hf => ?_)
  · refine x_lload_n 9 C dX9_inverseBy_8 hl 1 rfl rfl ?_
    refine x_lstore 11 C dX9_inverseBy_9 [(4, .long v2), (0, .long v0), (2, .long v2)] hl rfl rfl rfl (fun ls hl => ?_)
    refine x_lload_n 12 C dX9_inverseBy_11 hl 1 rfl rfl ?_
    refine x_lload_n 13 C dX9_inverseBy_12 hl 2 rfl rfl ?_
    obtain ⟨y13, hy13, hf⟩ := kx_bind hf
    refine x_callSl0 16 C dX9_inverseBy_13 X hl kl_X9_15 (c_J9_floorMod_f86c9 E.2.1 D T  v0 v2  y13 hy13) [] rfl rfl rfl rfl rfl rfl (fun H locs X => ?_)
    refine x_lstore 18 C dX9_inverseBy_16 [(6, .long y13), (4, .long v2), (0, .long v0), (2, .long v2)] hl rfl rfl rfl (fun ls hl => ?_)
    refine x_lconst 19 C dX9_inverseBy_18 (0 : Int64) kv_lconst_0 rfl ?_
    refine x_lstore 21 C dX9_inverseBy_19 [(8, .long (0 : Int64)), (6, .long y13), (4, .long v2), (0, .long v0), (2, .long v2)] hl rfl rfl rfl (fun ls hl => ?_)
    refine x_lconst 22 C dX9_inverseBy_21 (1 : Int64) kv_lconst_1 rfl ?_
    refine x_lstore 24 C dX9_inverseBy_22 [(10, .long (1 : Int64)), (8, .long (0 : Int64)), (6, .long y13), (4, .long v2), (0, .long v0), (2, .long v2)] hl rfl rfl rfl (fun ls hl => ?_)
    refine x_iconst 25 C dX9_inverseBy_24 (0 : Int32) kv_iconst_0 rfl ?_
    refine x_istore 27 C dX9_inverseBy_25 [(12, .int (0 : Int32)), (10, .long (1 : Int64)), (8, .long (0 : Int64)), (6, .long y13), (4, .long v2), (0, .long v0), (2, .long v2)] hl rfl rfl rfl (fun ls hl => ?_)
    exact w_X9_inverseBy_27  C N x  R  N v2 v2 y13 (0 : Int64) (1 : Int64) (0 : Int32) _ _ _ X (lv_sub hl [6, 4, 3, 2, 1, 0] rfl) hf
  refine x_lconst 7 C dX9_inverseBy_6 (0 : Int64) kv_lconst_0 rfl ?_
  obtain rfl := Option.some.inj hf
  exact R _ _ _ _ X dX9_inverseBy_7
set_option maxHeartbeats 4000000 in
set_option maxRecDepth 100000 in
theorem c_X4_open (l : Launch) (D : va_G) (T : KT) (h0 h1 h2 : Nat) (N : Nat)  (m_step m_width m_slant m_p1_a m_p1_b : Int64) (x : Int32 × Int64 × Int64 × Int64) (hf : f_X4_open N m_step m_width m_slant m_p1_a m_p1_b = some x) : kx_MI l yX4_open cX4_open 10 (some .boolean) 2 63 D T [.ref h0, .ref h2] (w37_X4 T h0 h1 h2 m_step m_width m_slant m_p1_a m_p1_b) (w37_X4 T h0 h1 h2 x.2.1 x.2.2.1 x.2.2.2 m_p1_a m_p1_b) x.1 := by
  refine kx_ofMZ RX4 rfl (plainFor_of_name (x := yX4_open) kpn_X4) rfl ?_
  intro E A H ls _ C X R hl
  have hl : lv_has ls 10 [(0, .ref h0), (1, .ref h2)] := hl
  rw [f_X4_open] at hf
  refine x_aload_n 1 C dX4_open_0 hl 1 rfl rfl ?_
  refine x_get 4 C dX4_open_1 X kf_X4_23 1 rfl rfl rfl ?_
  refine x_aload_n 5 C dX4_open_4 hl 1 rfl rfl ?_
  refine x_get 8 C dX4_open_5 X kf_X4_26 1 rfl rfl rfl ?_
  obtain ⟨y8, hy8, hf⟩ := kx_bind hf
  refine x_callSl 11 C dX4_open_8 X hl kl_X4_29 (c_X9_divisor E.2.1 D T  N m_p1_a m_p1_b  y8 hy8) [] rfl rfl rfl rfl rfl cb_90 rfl (fun H locs X => ?_)
  refine x_lstore_n 12 C dX4_open_11 [(2, .long y8), (0, .ref h0), (1, .ref h2)] hl rfl rfl rfl (fun ls hl => ?_)
  refine x_lload_n 13 C dX4_open_12 hl 0 rfl rfl ?_
  refine x_lconst 14 C dX4_open_13 (1 : Int64) kv_lconst_1 rfl ?_
  refine x_lcmp_ge 20 15 18 C dX4_open_14 dX4_open_15 rfl rfl rfl hf (fun hf => ?_) (fun hf => ?_)
  · refine x_aload_n 21 C dX4_open_20 hl 2 rfl rfl ?_
    refine x_get 24 C dX4_open_21 X kf_X4_23 1 rfl rfl rfl ?_
    refine x_lload_n 25 C dX4_open_24 hl 0 rfl rfl ?_
    refine x_ldiv 26 C dX4_open_25 hf rfl (fun hf => ?_)
    refine x_lstore 28 C dX4_open_26 [(4, .long (m_p1_a / y8)), (2, .long y8), (0, .ref h0), (1, .ref h2)] hl rfl rfl rfl (fun ls hl => ?_)
    refine x_aload_n 29 C dX4_open_28 hl 3 rfl rfl ?_
    refine x_get 32 C dX4_open_29 X kf_X4_26 1 rfl rfl rfl ?_
    refine x_lload_n 33 C dX4_open_32 hl 1 rfl rfl ?_
    refine x_ldiv 34 C dX4_open_33 hf rfl (fun hf => ?_)
    refine x_lstore 36 C dX4_open_34 [(6, .long (m_p1_b / y8)), (4, .long (m_p1_a / y8)), (2, .long y8), (0, .ref h0), (1, .ref h2)] hl rfl rfl rfl (fun ls hl => ?_)
    refine x_lload 38 C dX4_open_36 hl 1 rfl rfl ?_
    refine x_lload 40 C dX4_open_38 hl 1 rfl rfl ?_
    refine x_lmul 41 C dX4_open_40 rfl ?_
    refine x_lload 43 C dX4_open_41 hl 1 rfl rfl ?_
    refine x_lload 45 C dX4_open_43 hl 0 rfl rfl ?_
    refine x_lmul 46 C dX4_open_45 rfl ?_
    refine x_lsub 47 C dX4_open_46 rfl ?_
    refine x_lload 49 C dX4_open_47 hl 0 rfl rfl ?_
    refine x_lload 51 C dX4_open_49 hl 0 rfl rfl ?_
    refine x_lmul 52 C dX4_open_51 rfl ?_
    refine x_ladd 53 C dX4_open_52 rfl ?_
    refine x_lstore 55 C dX4_open_53 [(8, .long ((((m_p1_a / y8) * (m_p1_a / y8)) - ((m_p1_a / y8) * (m_p1_b / y8))) + ((m_p1_b / y8) * (m_p1_b / y8)))), (6, .long (m_p1_b / y8)), (4, .long (m_p1_a / y8)), (2, .long y8), (0, .ref h0), (1, .ref h2)] hl rfl rfl rfl (fun ls hl => ?_)
    refine x_lload 57 C dX4_open_55 hl 0 rfl rfl ?_
    refine x_lconst 58 C dX4_open_57 (1 : Int64) kv_lconst_1 rfl ?_
    refine x_lcmp_ge 64 59 62 C dX4_open_58 dX4_open_59 rfl rfl rfl hf (fun hf => ?_) (fun hf => ?_)
    · refine x_aload_n 65 C dX4_open_64 hl 4 rfl rfl ?_
      refine x_lload_n 66 C dX4_open_65 hl 3 rfl rfl ?_
      refine x_put 69 C dX4_open_66 X kp_X4_7 0 rfl rfl rfl rfl (w37_X4 T h0 h1 h2 y8 m_width m_slant m_p1_a m_p1_b) rfl rfl (fun H locs X => ?_)
      refine x_aload_n 70 C dX4_open_69 hl 4 rfl rfl ?_
      refine x_lload_n 71 C dX4_open_70 hl 3 rfl rfl ?_
      refine x_lload 73 C dX4_open_71 hl 0 rfl rfl ?_
      refine x_lmul 74 C dX4_open_73 rfl ?_
      refine x_put 77 C dX4_open_74 X kp_X4_13 0 rfl rfl rfl rfl (w37_X4 T h0 h1 h2 y8 (y8 * ((((m_p1_a / y8) * (m_p1_a / y8)) - ((m_p1_a / y8) * (m_p1_b / y8))) + ((m_p1_b / y8) * (m_p1_b / y8)))) m_slant m_p1_a m_p1_b) rfl rfl (fun H locs X => ?_)
      refine x_aload_n 78 C dX4_open_77 hl 4 rfl rfl ?_
      refine x_lload_n 79 C dX4_open_78 hl 3 rfl rfl ?_
      refine x_lload 81 C dX4_open_79 hl 2 rfl rfl ?_
      refine x_lload 83 C dX4_open_81 hl 1 rfl rfl ?_
      refine x_lload 85 C dX4_open_83 hl 0 rfl rfl ?_
      obtain ⟨y85, hy85, hf⟩ := kx_bind hf
      refine x_callSl 88 C dX4_open_85 X hl kl_X4_35 (c_X9_inverseBy E.2.1 D T  N (m_p1_b / y8) ((((m_p1_a / y8) * (m_p1_a / y8)) - ((m_p1_a / y8) * (m_p1_b / y8))) + ((m_p1_b / y8) * (m_p1_b / y8)))  y85 hy85) [.long (m_p1_a / y8), .long y8, .ref h0] rfl rfl rfl rfl rfl cb_90 rfl (fun H locs X => ?_)
      refine x_lmul 89 C dX4_open_88 rfl ?_
      refine x_lload 91 C dX4_open_89 hl 0 rfl rfl ?_
      obtain ⟨y91, hy91, hf⟩ := kx_bind hf
      refine x_callSl 94 C dX4_open_91 X hl kl_X4_38 (c_J9_floorMod_f86c9 E.2.1 D T  ((m_p1_a / y8) * y85) ((((m_p1_a / y8) * (m_p1_a / y8)) - ((m_p1_a / y8) * (m_p1_b / y8))) + ((m_p1_b / y8) * (m_p1_b / y8)))  y91 hy91) [.long y8, .ref h0] rfl rfl rfl rfl rfl cb_90 rfl (fun H locs X => ?_)
      refine x_lmul 95 C dX4_open_94 rfl ?_
      refine x_put 98 C dX4_open_95 X kp_X4_43 0 rfl rfl rfl rfl (w37_X4 T h0 h1 h2 y8 (y8 * ((((m_p1_a / y8) * (m_p1_a / y8)) - ((m_p1_a / y8) * (m_p1_b / y8))) + ((m_p1_b / y8) * (m_p1_b / y8)))) (y8 * y91) m_p1_a m_p1_b) rfl rfl (fun H locs X => ?_)
      refine x_iconst 99 C dX4_open_98 (1 : Int32) kv_iconst_1 rfl ?_
      obtain rfl := Option.some.inj hf
      exact R _ _ _ _ X kb_1 dX4_open_99
    refine x_iconst 63 C dX4_open_62 (0 : Int32) kv_iconst_0 rfl ?_
    obtain rfl := Option.some.inj hf
    exact R _ _ _ _ X kb_0 dX4_open_63
  refine x_iconst 19 C dX4_open_18 (0 : Int32) kv_iconst_0 rfl ?_
  obtain rfl := Option.some.inj hf
  exact R _ _ _ _ X kb_0 dX4_open_19
set_option maxHeartbeats 4000000 in
set_option maxRecDepth 100000 in
theorem c_X5_multiply_p1_this (l : Launch) (D : va_G) (T : KT) (h0 : Nat)  (m_a m_b : Int64) (x : Int64 × Int64) (hf : f_X5_multiply m_a m_b m_a m_b = some x) : kx_MV l yX5_multiply cX5_multiply 6 none 0 0 D T [.ref h0, .ref h0] (w7_X5 T h0 m_a m_b) (w7_X5 T h0 x.1 x.2) := by
  refine kx_ofMV RX5 rfl (plainFor_of_name (x := yX5_multiply) kpn_X5) rfl ?_
  intro E A H ls _ C X R hl
  have hl : lv_has ls 6 [(0, .ref h0), (1, .ref h0)] := hl
  rw [f_X5_multiply] at hf
  refine x_aload_n 1 C dX5_multiply_0 hl 0 rfl rfl ?_
  refine x_get 4 C dX5_multiply_1 X kf_X5_15 0 rfl rfl rfl ?_
  refine x_aload_n 5 C dX5_multiply_4 hl 1 rfl rfl ?_
  refine x_get 8 C dX5_multiply_5 X kf_X5_15 0 rfl rfl rfl ?_
  refine x_lmul 9 C dX5_multiply_8 rfl ?_
  refine x_lstore_n 10 C dX5_multiply_9 [(2, .long (m_b * m_b)), (0, .ref h0), (1, .ref h0)] hl rfl rfl rfl (fun ls hl => ?_)
  refine x_aload_n 11 C dX5_multiply_10 hl 1 rfl rfl ?_
  refine x_get 14 C dX5_multiply_11 X kf_X5_9 0 rfl rfl rfl ?_
  refine x_aload_n 15 C dX5_multiply_14 hl 2 rfl rfl ?_
  refine x_get 18 C dX5_multiply_15 X kf_X5_15 0 rfl rfl rfl ?_
  refine x_lmul 19 C dX5_multiply_18 rfl ?_
  refine x_aload_n 20 C dX5_multiply_19 hl 1 rfl rfl ?_
  refine x_get 23 C dX5_multiply_20 X kf_X5_15 0 rfl rfl rfl ?_
  refine x_aload_n 24 C dX5_multiply_23 hl 2 rfl rfl ?_
  refine x_get 27 C dX5_multiply_24 X kf_X5_9 0 rfl rfl rfl ?_
  refine x_lmul 28 C dX5_multiply_27 rfl ?_
  refine x_ladd 29 C dX5_multiply_28 rfl ?_
  refine x_lload_n 30 C dX5_multiply_29 hl 0 rfl rfl ?_
  refine x_lsub 31 C dX5_multiply_30 rfl ?_
  refine x_lstore 33 C dX5_multiply_31 [(4, .long (((m_a * m_b) + (m_b * m_a)) - (m_b * m_b))), (2, .long (m_b * m_b)), (0, .ref h0), (1, .ref h0)] hl rfl rfl rfl (fun ls hl => ?_)
  refine x_aload_n 34 C dX5_multiply_33 hl 2 rfl rfl ?_
  refine x_aload_n 35 C dX5_multiply_34 hl 2 rfl rfl ?_
  refine x_get 38 C dX5_multiply_35 X kf_X5_9 0 rfl rfl rfl ?_
  refine x_aload_n 39 C dX5_multiply_38 hl 3 rfl rfl ?_
  refine x_get 42 C dX5_multiply_39 X kf_X5_9 0 rfl rfl rfl ?_
  refine x_lmul 43 C dX5_multiply_42 rfl ?_
  refine x_lload_n 44 C dX5_multiply_43 hl 1 rfl rfl ?_
  refine x_lsub 45 C dX5_multiply_44 rfl ?_
  refine x_put 48 C dX5_multiply_45 X kp_X5_9 0 rfl rfl rfl rfl (w7_X5 T h0 ((m_a * m_a) - (m_b * m_b)) m_b) rfl rfl (fun H locs X => ?_)
  refine x_aload_n 49 C dX5_multiply_48 hl 2 rfl rfl ?_
  refine x_lload 51 C dX5_multiply_49 hl 0 rfl rfl ?_
  refine x_put 54 C dX5_multiply_51 X kp_X5_15 0 rfl rfl rfl rfl (w7_X5 T h0 ((m_a * m_a) - (m_b * m_b)) (((m_a * m_b) + (m_b * m_a)) - (m_b * m_b))) rfl rfl (fun H locs X => ?_)
  obtain rfl := Option.some.inj hf
  exact R _ _ _ _ X dX5_multiply_54
set_option maxHeartbeats 4000000 in
set_option maxRecDepth 100000 in
theorem c_X4_reduce_p1_square (l : Launch) (D : va_G) (T : KT) (h0 h1 : Nat)  (m_step m_width m_slant m_square_a m_square_b : Int64) (x : Int64 × Int64) (hf : f_X4_reduce m_step m_width m_slant m_square_a m_square_b = some x) : kx_MV l yX4_reduce cX4_reduce 4 none 1 25 D T [.ref h0, .ref h1] (w38_X4 T h0 h1 m_step m_width m_slant m_square_a m_square_b) (w38_X4 T h0 h1 m_step m_width m_slant x.1 x.2) := by
  refine kx_ofMV RX4 rfl (plainFor_of_name (x := yX4_reduce) kpn_X4) rfl ?_
  intro E A H ls _ C X R hl
  have hl : lv_has ls 4 [(0, .ref h0), (1, .ref h1)] := hl
  rw [f_X4_reduce] at hf
  refine x_aload_n 1 C dX4_reduce_0 hl 0 rfl rfl ?_
  refine x_get 4 C dX4_reduce_1 X kf_X4_7 0 rfl rfl rfl ?_
  refine x_lconst 5 C dX4_reduce_4 (1 : Int64) kv_lconst_1 rfl ?_
  refine x_lcmp_lt 18 6 9 C dX4_reduce_5 dX4_reduce_6 rfl rfl rfl hf (fun hf => ?_) (fun hf => ?_)
  · obtain rfl := Option.some.inj hf
    exact R _ _ _ _ X dX4_reduce_18
  refine x_aload_n 10 C dX4_reduce_9 hl 0 rfl rfl ?_
  refine x_get 13 C dX4_reduce_10 X kf_X4_13 0 rfl rfl rfl ?_
  refine x_lconst 14 C dX4_reduce_13 (1 : Int64) kv_lconst_1 rfl ?_
  refine x_lcmp_ge 19 15 18 C dX4_reduce_14 dX4_reduce_15 rfl rfl rfl hf (fun hf => ?_) (fun hf => ?_)
  · refine x_aload_n 20 C dX4_reduce_19 hl 1 rfl rfl ?_
    refine x_get 23 C dX4_reduce_20 X kf_X4_26 1 rfl rfl rfl ?_
    refine x_aload_n 24 C dX4_reduce_23 hl 0 rfl rfl ?_
    refine x_get 27 C dX4_reduce_24 X kf_X4_7 0 rfl rfl rfl ?_
    obtain ⟨y27, hy27, hf⟩ := kx_bind hf
    refine x_callSl 30 C dX4_reduce_27 X hl kl_X4_54 (c_J9_floorDiv_f86c9 E.2.1 D T  m_square_b m_step  y27 hy27) [] rfl rfl rfl rfl rfl cb_97 rfl (fun H locs X => ?_)
    refine x_lstore_n 31 C dX4_reduce_30 [(2, .long y27), (0, .ref h0), (1, .ref h1)] hl rfl rfl rfl (fun ls hl => ?_)
    refine x_aload_n 32 C dX4_reduce_31 hl 2 rfl rfl ?_
    refine x_aload_n 33 C dX4_reduce_32 hl 2 rfl rfl ?_
    refine x_get 36 C dX4_reduce_33 X kf_X4_23 1 rfl rfl rfl ?_
    refine x_lload_n 37 C dX4_reduce_36 hl 0 rfl rfl ?_
    refine x_aload_n 38 C dX4_reduce_37 hl 1 rfl rfl ?_
    refine x_get 41 C dX4_reduce_38 X kf_X4_43 0 rfl rfl rfl ?_
    refine x_lmul 42 C dX4_reduce_41 rfl ?_
    refine x_lsub 43 C dX4_reduce_42 rfl ?_
    refine x_aload_n 44 C dX4_reduce_43 hl 1 rfl rfl ?_
    refine x_get 47 C dX4_reduce_44 X kf_X4_13 0 rfl rfl rfl ?_
    obtain ⟨y47, hy47, hf⟩ := kx_bind hf
    refine x_callSl 50 C dX4_reduce_47 X hl kl_X4_38 (c_J9_floorMod_f86c9 E.2.1 D T  (m_square_a - (y27 * m_slant)) m_width  y47 hy47) [.ref h1] rfl rfl rfl rfl rfl cb_97 rfl (fun H locs X => ?_)
    refine x_put 53 C dX4_reduce_50 X kp_X4_23 1 rfl rfl rfl rfl (w38_X4 T h0 h1 m_step m_width m_slant y47 m_square_b) rfl rfl (fun H locs X => ?_)
    refine x_aload_n 54 C dX4_reduce_53 hl 2 rfl rfl ?_
    refine x_aload_n 55 C dX4_reduce_54 hl 2 rfl rfl ?_
    refine x_get 58 C dX4_reduce_55 X kf_X4_26 1 rfl rfl rfl ?_
    refine x_lload_n 59 C dX4_reduce_58 hl 0 rfl rfl ?_
    refine x_aload_n 60 C dX4_reduce_59 hl 1 rfl rfl ?_
    refine x_get 63 C dX4_reduce_60 X kf_X4_7 0 rfl rfl rfl ?_
    refine x_lmul 64 C dX4_reduce_63 rfl ?_
    refine x_lsub 65 C dX4_reduce_64 rfl ?_
    refine x_put 68 C dX4_reduce_65 X kp_X4_26 1 rfl rfl rfl rfl (w38_X4 T h0 h1 m_step m_width m_slant y47 (m_square_b - (y27 * m_step))) rfl rfl (fun H locs X => ?_)
    obtain rfl := Option.some.inj hf
    exact R _ _ _ _ X dX4_reduce_68
  obtain rfl := Option.some.inj hf
  exact R _ _ _ _ X dX4_reduce_18
set_option maxHeartbeats 4000000 in
set_option maxRecDepth 100000 in
theorem c_X4_reduce (l : Launch) (D : va_G) (T : KT) (h0 h1 h2 : Nat)  (m_step m_width m_slant m_p1_a m_p1_b : Int64) (x : Int64 × Int64) (hf : f_X4_reduce m_step m_width m_slant m_p1_a m_p1_b = some x) : kx_MV l yX4_reduce cX4_reduce 4 none 1 25 D T [.ref h0, .ref h2] (w37_X4 T h0 h1 h2 m_step m_width m_slant m_p1_a m_p1_b) (w37_X4 T h0 h1 h2 m_step m_width m_slant x.1 x.2) := by
  refine kx_ofMV RX4 rfl (plainFor_of_name (x := yX4_reduce) kpn_X4) rfl ?_
  intro E A H ls _ C X R hl
  have hl : lv_has ls 4 [(0, .ref h0), (1, .ref h2)] := hl
  rw [f_X4_reduce] at hf
  refine x_aload_n 1 C dX4_reduce_0 hl 0 rfl rfl ?_
  refine x_get 4 C dX4_reduce_1 X kf_X4_7 0 rfl rfl rfl ?_
  refine x_lconst 5 C dX4_reduce_4 (1 : Int64) kv_lconst_1 rfl ?_
  refine x_lcmp_lt 18 6 9 C dX4_reduce_5 dX4_reduce_6 rfl rfl rfl hf (fun hf => ?_) (fun hf => ?_)
  · obtain rfl := Option.some.inj hf
    exact R _ _ _ _ X dX4_reduce_18
  refine x_aload_n 10 C dX4_reduce_9 hl 0 rfl rfl ?_
  refine x_get 13 C dX4_reduce_10 X kf_X4_13 0 rfl rfl rfl ?_
  refine x_lconst 14 C dX4_reduce_13 (1 : Int64) kv_lconst_1 rfl ?_
  refine x_lcmp_ge 19 15 18 C dX4_reduce_14 dX4_reduce_15 rfl rfl rfl hf (fun hf => ?_) (fun hf => ?_)
  · refine x_aload_n 20 C dX4_reduce_19 hl 1 rfl rfl ?_
    refine x_get 23 C dX4_reduce_20 X kf_X4_26 1 rfl rfl rfl ?_
    refine x_aload_n 24 C dX4_reduce_23 hl 0 rfl rfl ?_
    refine x_get 27 C dX4_reduce_24 X kf_X4_7 0 rfl rfl rfl ?_
    obtain ⟨y27, hy27, hf⟩ := kx_bind hf
    refine x_callSl 30 C dX4_reduce_27 X hl kl_X4_54 (c_J9_floorDiv_f86c9 E.2.1 D T  m_p1_b m_step  y27 hy27) [] rfl rfl rfl rfl rfl cb_90 rfl (fun H locs X => ?_)
    refine x_lstore_n 31 C dX4_reduce_30 [(2, .long y27), (0, .ref h0), (1, .ref h2)] hl rfl rfl rfl (fun ls hl => ?_)
    refine x_aload_n 32 C dX4_reduce_31 hl 2 rfl rfl ?_
    refine x_aload_n 33 C dX4_reduce_32 hl 2 rfl rfl ?_
    refine x_get 36 C dX4_reduce_33 X kf_X4_23 1 rfl rfl rfl ?_
    refine x_lload_n 37 C dX4_reduce_36 hl 0 rfl rfl ?_
    refine x_aload_n 38 C dX4_reduce_37 hl 1 rfl rfl ?_
    refine x_get 41 C dX4_reduce_38 X kf_X4_43 0 rfl rfl rfl ?_
    refine x_lmul 42 C dX4_reduce_41 rfl ?_
    refine x_lsub 43 C dX4_reduce_42 rfl ?_
    refine x_aload_n 44 C dX4_reduce_43 hl 1 rfl rfl ?_
    refine x_get 47 C dX4_reduce_44 X kf_X4_13 0 rfl rfl rfl ?_
    obtain ⟨y47, hy47, hf⟩ := kx_bind hf
    refine x_callSl 50 C dX4_reduce_47 X hl kl_X4_38 (c_J9_floorMod_f86c9 E.2.1 D T  (m_p1_a - (y27 * m_slant)) m_width  y47 hy47) [.ref h2] rfl rfl rfl rfl rfl cb_90 rfl (fun H locs X => ?_)
    refine x_put 53 C dX4_reduce_50 X kp_X4_23 1 rfl rfl rfl rfl (w37_X4 T h0 h1 h2 m_step m_width m_slant y47 m_p1_b) rfl rfl (fun H locs X => ?_)
    refine x_aload_n 54 C dX4_reduce_53 hl 2 rfl rfl ?_
    refine x_aload_n 55 C dX4_reduce_54 hl 2 rfl rfl ?_
    refine x_get 58 C dX4_reduce_55 X kf_X4_26 1 rfl rfl rfl ?_
    refine x_lload_n 59 C dX4_reduce_58 hl 0 rfl rfl ?_
    refine x_aload_n 60 C dX4_reduce_59 hl 1 rfl rfl ?_
    refine x_get 63 C dX4_reduce_60 X kf_X4_7 0 rfl rfl rfl ?_
    refine x_lmul 64 C dX4_reduce_63 rfl ?_
    refine x_lsub 65 C dX4_reduce_64 rfl ?_
    refine x_put 68 C dX4_reduce_65 X kp_X4_26 1 rfl rfl rfl rfl (w37_X4 T h0 h1 h2 m_step m_width m_slant y47 (m_p1_b - (y27 * m_step))) rfl rfl (fun H locs X => ?_)
    obtain rfl := Option.some.inj hf
    exact R _ _ _ _ X dX4_reduce_68
  obtain rfl := Option.some.inj hf
  exact R _ _ _ _ X dX4_reduce_18
set_option maxHeartbeats 4000000 in
set_option maxRecDepth 100000 in
theorem w_X4_raise_73 {E : KE} {A : Nat → Prop} {D : va_G} {T : KT} (h0 h1 h2 h3 : Nat) (C : kx_C E cX4_raise 8 none RX4 2 48 D T) (N : Nat) (x : Int64 × Int64 × Int64 × Int64) (m_step m_width m_slant m_p1_a m_p1_b : Int64) (R : kx_RV E cX4_raise D A (w36_X4 T h0 h1 h2 h3 m_step m_width m_slant x.1 x.2.1 m_p1_a m_p1_b x.2.2.1 x.2.2.2)) (k35 : Int64 → Int32 → Int64 → Int64 → Int64 → Int64 → Int64 → Int64 → Int64 → Option (Int64 × Int64 × Int64 × Int64)) (hk35 : ∀ (m_square_a m_square_b m_p4_a m_p4_b : Int64) (v5 : Int64) (v7 : Int32) (H : Heap) (locs : List Loc) (ls : Array Slot), kx_H E D A H locs (w36_X4 T h0 h1 h2 h3 m_step m_width m_slant m_square_a m_square_b m_p1_a m_p1_b m_p4_a m_p4_b) → lv_has ls 8 [(0, .ref h0), (4, .ref h3), (5, .long v5), (7, .int v7)] → k35 v5 v7 m_step m_width m_slant m_square_a m_square_b m_p4_a m_p4_b = some x → kx_W E H locs 35 ls []) : ∀ (m_square_a m_square_b m_p4_a m_p4_b : Int64) (v5 : Int64) (v7 : Int32) (H : Heap) (locs : List Loc) (ls : Array Slot), kx_H E D A H locs (w36_X4 T h0 h1 h2 h3 m_step m_width m_slant m_square_a m_square_b m_p1_a m_p1_b m_p4_a m_p4_b) → lv_has ls 8 [(0, .ref h0), (4, .ref h3), (5, .long v5), (7, .int v7)] → f_X4_raise_73 N k35 v5 v7 m_step m_width m_slant m_square_a m_square_b m_p4_a m_p4_b = some x → kx_W E H locs 73 ls [] := by
  intro m_square_a m_square_b m_p4_a m_p4_b v5 v7 H locs ls X hl hf
  rw [f_X4_raise_73] at hf
  refine x_aload_n 74 C dX4_raise_73 hl 0 rfl rfl ?_
  refine x_get 77 C dX4_raise_74 X kf_X4_19 0 rfl rfl rfl ?_
  refine x_aload_n 78 C dX4_raise_77 hl 0 rfl rfl ?_
  refine x_get 81 C dX4_raise_78 X kf_X4_19 0 rfl rfl rfl ?_
  obtain ⟨y81, hy81, hf⟩ := kx_bind hf
  refine x_callVv 84 C dX4_raise_81 X hl kl_X4_68 (c_X5_multiply_p1_this E.2.1 D T h1  m_square_a m_square_b y81 hy81) rfl rfl [] rfl rfl rfl rfl rfl cb_91 rfl (fun H locs X => ?_)
  refine x_aload_n 85 C dX4_raise_84 hl 0 rfl rfl ?_
  refine x_aload_n 86 C dX4_raise_85 hl 0 rfl rfl ?_
  refine x_get 89 C dX4_raise_86 X kf_X4_19 0 rfl rfl rfl ?_
  obtain ⟨y89, hy89, hf⟩ := kx_bind hf
  refine x_callVv 92 C dX4_raise_89 X hl kl_X4_61 (c_X4_reduce_p1_square E.2.1 D T h0 h1  m_step m_width m_slant y81.1 y81.2 y89 hy89) rfl rfl [] rfl rfl rfl rfl rfl cb_92 rfl (fun H locs X => ?_)
  refine x_lload 94 C dX4_raise_92 hl 2 rfl rfl ?_
  refine x_iconst 95 C dX4_raise_94 (1 : Int32) kv_iconst_1 rfl ?_
  refine x_lshr 96 C dX4_raise_95 rfl ?_
  refine x_lstore 98 C dX4_raise_96 [(5, .long (v5 >>> (((1 : Int32)).toInt64 &&& 63))), (0, .ref h0), (4, .ref h3), (7, .int v7)] hl rfl rfl rfl (fun ls hl => ?_)
  refine x_iinc 101 C dX4_raise_98 (1 : Int32) kv_iconst_1 [(7, .int (v7 + (1 : Int32))), (5, .long (v5 >>> (((1 : Int32)).toInt64 &&& 63))), (0, .ref h0), (4, .ref h3)] hl 3 rfl rfl rfl rfl (fun ls hl => ?_)
  refine x_goto 35 C dX4_raise_101 rfl ?_
  exact hk35 y89.1 y89.2 m_p4_a m_p4_b (v5 >>> (((1 : Int32)).toInt64 &&& 63)) (v7 + (1 : Int32)) _ _ _ X (lv_sub hl [2, 3, 1, 0] rfl) hf
set_option maxHeartbeats 4000000 in
set_option maxRecDepth 100000 in
theorem w_X4_raise_35 {E : KE} {A : Nat → Prop} {D : va_G} {T : KT} (h0 h1 h2 h3 : Nat) (C : kx_C E cX4_raise 8 none RX4 2 48 D T) (N : Nat) (x : Int64 × Int64 × Int64 × Int64) (m_step m_width m_slant m_p1_a m_p1_b : Int64) (R : kx_RV E cX4_raise D A (w36_X4 T h0 h1 h2 h3 m_step m_width m_slant x.1 x.2.1 m_p1_a m_p1_b x.2.2.1 x.2.2.2)) : ∀ (k : Nat), ∀ (m_square_a m_square_b m_p4_a m_p4_b : Int64) (v5 : Int64) (v7 : Int32) (H : Heap) (locs : List Loc) (ls : Array Slot), kx_H E D A H locs (w36_X4 T h0 h1 h2 h3 m_step m_width m_slant m_square_a m_square_b m_p1_a m_p1_b m_p4_a m_p4_b) → lv_has ls 8 [(0, .ref h0), (4, .ref h3), (5, .long v5), (7, .int v7)] → f_X4_raise_35 N k v5 v7 m_step m_width m_slant m_square_a m_square_b m_p4_a m_p4_b = some x → kx_W E H locs 35 ls [] := by
  intro k
  induction k with
  | zero =>
    intro m_square_a m_square_b m_p4_a m_p4_b v5 v7 H locs ls X hl hf
    cases (show (none : Option (Int64 × Int64 × Int64 × Int64)) = some x from hf)
  | succ k ih =>
    intro m_square_a m_square_b m_p4_a m_p4_b v5 v7 H locs ls X hl hf
    rw [f_X4_raise_35] at hf
    refine x_iload 37 C dX4_raise_35 hl 3 rfl rfl ?_
    refine x_bipush 39 C dX4_raise_37 (63 : Int32) kv_bipush_63 rfl ?_
    refine x_icmp_ge 104 42 C dX4_raise_39 rfl rfl hf (fun hf => ?_) (fun hf => ?_)
    · obtain rfl := Option.some.inj hf
      exact R _ _ _ _ X dX4_raise_104
    refine x_lload 44 C dX4_raise_42 hl 2 rfl rfl ?_
    refine x_lconst 45 C dX4_raise_44 (0 : Int64) kv_lconst_0 rfl ?_
    refine x_lcmp_le 104 46 49 C dX4_raise_45 dX4_raise_46 rfl rfl rfl hf (fun hf => ?_) (fun hf => ?_)
    · obtain rfl := Option.some.inj hf
      exact R _ _ _ _ X dX4_raise_104
    refine x_lload 51 C dX4_raise_49 hl 2 rfl rfl ?_
    refine x_lconst 52 C dX4_raise_51 (1 : Int64) kv_lconst_1 rfl ?_
    refine x_land 53 C dX4_raise_52 rfl ?_
    refine x_lconst 54 C dX4_raise_53 (1 : Int64) kv_lconst_1 rfl ?_
    refine x_lcmp_ne 73 55 58 C dX4_raise_54 dX4_raise_55 rfl rfl rfl hf (fun hf => ?_) (fun hf => ?_)
    · exact w_X4_raise_73 h0 h1 h2 h3 C N x m_step m_width m_slant m_p1_a m_p1_b R (f_X4_raise_35 N k) ih m_square_a m_square_b m_p4_a m_p4_b v5 v7 _ _ _ X (lv_sub hl [0, 1, 2, 3] rfl) hf
    refine x_aload 60 C dX4_raise_58 hl 1 rfl rfl ?_
    refine x_aload_n 61 C dX4_raise_60 hl 0 rfl rfl ?_
    refine x_get 64 C dX4_raise_61 X kf_X4_19 0 rfl rfl rfl ?_
    obtain ⟨y64, hy64, hf⟩ := kx_bind hf
    refine x_callVv 67 C dX4_raise_64 X hl kl_X4_68 (c_X5_multiply E.2.1 D T h3 h1  m_p4_a m_p4_b m_square_a m_square_b y64 hy64) rfl rfl [] rfl rfl rfl rfl rfl cb_93 rfl (fun H locs X => ?_)
    refine x_aload_n 68 C dX4_raise_67 hl 0 rfl rfl ?_
    refine x_aload 70 C dX4_raise_68 hl 1 rfl rfl ?_
    obtain ⟨y70, hy70, hf⟩ := kx_bind hf
    refine x_callVv 73 C dX4_raise_70 X hl kl_X4_61 (c_X4_reduce E.2.1 D T h0 h1 h3  m_step m_width m_slant y64.1 y64.2 y70 hy70) rfl rfl [] rfl rfl rfl rfl rfl cb_94 rfl (fun H locs X => ?_)
    exact w_X4_raise_73 h0 h1 h2 h3 C N x m_step m_width m_slant m_p1_a m_p1_b R (f_X4_raise_35 N k) ih m_square_a m_square_b y70.1 y70.2 v5 v7 _ _ _ X (lv_sub hl [0, 1, 2, 3] rfl) hf
set_option maxHeartbeats 4000000 in
set_option maxRecDepth 100000 in
theorem c_X4_raise (l : Launch) (D : va_G) (T : KT) (h0 h1 h2 h3 : Nat) (N : Nat) (v2 : Int64) (m_step m_width m_slant m_square_a m_square_b m_p1_a m_p1_b m_p4_a m_p4_b : Int64) (x : Int64 × Int64 × Int64 × Int64) (hf : f_X4_raise N v2 m_step m_width m_slant m_p1_a m_p1_b = some x) : kx_MV l yX4_raise cX4_raise 8 none 2 48 D T [.ref h0, .ref h2, .long v2, .ref h3] (w36_X4 T h0 h1 h2 h3 m_step m_width m_slant m_square_a m_square_b m_p1_a m_p1_b m_p4_a m_p4_b) (w36_X4 T h0 h1 h2 h3 m_step m_width m_slant x.1 x.2.1 m_p1_a m_p1_b x.2.2.1 x.2.2.2) := by
  refine kx_ofMV RX4 rfl (plainFor_of_name (x := yX4_raise) kpn_X4) rfl ?_
  intro E A H ls _ C X R hl
  have hl : lv_has ls 8 [(0, .ref h0), (1, .ref h2), (2, .long v2), (4, .ref h3)] := hl
  rw [f_X4_raise] at hf
  refine x_lload_n 1 C dX4_raise_0 hl 2 rfl rfl ?_
  refine x_lstore 3 C dX4_raise_1 [(5, .long v2), (0, .ref h0), (1, .ref h2), (2, .long v2), (4, .ref h3)] hl rfl rfl rfl (fun ls hl => ?_)
  refine x_aload_n 4 C dX4_raise_3 hl 1 rfl rfl ?_
  refine x_get 7 C dX4_raise_4 X kf_X4_19 0 rfl rfl rfl ?_
  refine x_aload_n 8 C dX4_raise_7 hl 2 rfl rfl ?_
  obtain ⟨y8, hy8, hf⟩ := kx_bind hf
  refine x_callVv 11 C dX4_raise_8 X hl kl_X4_57 (c_X5_copy E.2.1 D T h1 h2  m_square_a m_square_b m_p1_a m_p1_b y8 hy8) rfl rfl [] rfl rfl rfl rfl rfl cb_95 rfl (fun H locs X => ?_)
  refine x_aload_n 12 C dX4_raise_11 hl 1 rfl rfl ?_
  refine x_aload_n 13 C dX4_raise_12 hl 1 rfl rfl ?_
  refine x_get 16 C dX4_raise_13 X kf_X4_19 0 rfl rfl rfl ?_
  obtain ⟨y16, hy16, hf⟩ := kx_bind hf
  refine x_callVv 19 C dX4_raise_16 X hl kl_X4_61 (c_X4_reduce_p1_square E.2.1 D T h0 h1  m_step m_width m_slant y8.1 y8.2 y16 hy16) rfl rfl [] rfl rfl rfl rfl rfl cb_92 rfl (fun H locs X => ?_)
  refine x_aload 21 C dX4_raise_19 hl 4 rfl rfl ?_
  refine x_lconst 22 C dX4_raise_21 (1 : Int64) kv_lconst_1 rfl ?_
  refine x_lconst 23 C dX4_raise_22 (0 : Int64) kv_lconst_0 rfl ?_
  obtain ⟨y23, hy23, hf⟩ := kx_bind hf
  refine x_callVv 26 C dX4_raise_23 X hl kl_X4_64 (c_X5_set E.2.1 D T h3 (1 : Int64) (0 : Int64) m_p4_a m_p4_b y23 hy23) rfl rfl [] rfl rfl rfl rfl rfl cb_96 rfl (fun H locs X => ?_)
  refine x_aload_n 27 C dX4_raise_26 hl 1 rfl rfl ?_
  refine x_aload 29 C dX4_raise_27 hl 4 rfl rfl ?_
  obtain ⟨y29, hy29, hf⟩ := kx_bind hf
  refine x_callVv 32 C dX4_raise_29 X hl kl_X4_61 (c_X4_reduce E.2.1 D T h0 h1 h3  m_step m_width m_slant y23.1 y23.2 y29 hy29) rfl rfl [] rfl rfl rfl rfl rfl cb_94 rfl (fun H locs X => ?_)
  refine x_iconst 33 C dX4_raise_32 (0 : Int32) kv_iconst_0 rfl ?_
  refine x_istore 35 C dX4_raise_33 [(7, .int (0 : Int32)), (5, .long v2), (0, .ref h0), (1, .ref h2), (2, .long v2), (4, .ref h3)] hl rfl rfl rfl (fun ls hl => ?_)
  exact w_X4_raise_35 h0 h1 h2 h3 C N x m_step m_width m_slant m_p1_a m_p1_b R  N y16.1 y16.2 y29.1 y29.2 v2 (0 : Int32) _ _ _ X (lv_sub hl [2, 5, 1, 0] rfl) hf
set_option maxHeartbeats 4000000 in
set_option maxRecDepth 100000 in
theorem c_X10_signByPrime_p1_one_p2_spare (l : Launch) (D : va_G) (T : KT) (h : Nat → Nat) (N : Nat)  (m_drawers_full m_drawers_kept : Int32) (m_drawers_partA m_drawers_partB m_drawers_keptA m_drawers_keptB m_drawers_keptFull : Nat → Int32) (m_tape_size m_tape_plain m_tape_omegas m_tape_end m_tape_place m_tape_plainTold m_tape_omegasTold : Int32) (m_tape_bytes : Nat → Int32) (m_euclid_count : Int32) (m_euclid_last_a m_euclid_last_b m_euclid_lastOfFirst_a m_euclid_lastOfFirst_b m_euclid_lastOfSecond_a m_euclid_lastOfSecond_b m_euclid_next_a m_euclid_next_b m_euclid_nextOfFirst_a m_euclid_nextOfFirst_b m_euclid_nextOfSecond_a m_euclid_nextOfSecond_b m_euclid_q_a m_euclid_q_b : Int64) (m_euclid_quotientA m_euclid_quotientB : Nat → Int64) (m_modulus_step m_modulus_width m_modulus_slant m_modulus_square_a m_modulus_square_b : Int64) (m_factors_count m_factors_threes m_factors_unit : Int32) (m_factors_primeA m_factors_primeB m_factors_norms : Nat → Int64) (m_factors_euclid_count : Int32) (m_factors_euclid_last_a m_factors_euclid_last_b m_factors_euclid_lastOfFirst_a m_factors_euclid_lastOfFirst_b m_factors_euclid_lastOfSecond_a m_factors_euclid_lastOfSecond_b m_factors_euclid_next_a m_factors_euclid_next_b m_factors_euclid_nextOfFirst_a m_factors_euclid_nextOfFirst_b m_factors_euclid_nextOfSecond_a m_factors_euclid_nextOfSecond_b m_factors_euclid_q_a m_factors_euclid_q_b : Int64) (m_factors_euclid_quotientA m_factors_euclid_quotientB : Nat → Int64) (m_factors_left_a m_factors_left_b m_factors_found_a m_factors_found_b m_factors_product_a m_factors_product_b : Int64) (m_primes_count : Int32) (m_primes_primeA m_primes_primeB : Nat → Int32) (m_primes_found_a m_primes_found_b : Int64) (m_rings_foundA m_rings_foundB m_rings_all m_rings_mostOfOneRow m_letters_count : Int32) (m_letters_bytes : Nat → Int32) (m_one_a m_one_b m_two_a m_two_b m_three_a m_three_b m_four_a m_four_b m_out_a m_out_b m_spare_a m_spare_b : Int64) (m_marks : Nat → Int32) (x : Int32 × Int64 × Int64 × Int64 × Int64 × Int64 × Int64 × Int64 × Int64 × Int64) (hf : f_X10_signByPrime N m_modulus_step m_modulus_width m_modulus_slant m_four_a m_four_b m_one_a m_one_b m_spare_a m_spare_b = some x) : kx_MI l yX10_signByPrime cX10_signByPrime 3 (some .int) 3 92 D T [.ref (h 0), .ref (h 45), .ref (h 50)] (wC T h m_drawers_full m_drawers_kept m_drawers_partA m_drawers_partB m_drawers_keptA m_drawers_keptB m_drawers_keptFull m_tape_size m_tape_plain m_tape_omegas m_tape_end m_tape_place m_tape_plainTold m_tape_omegasTold m_tape_bytes m_euclid_count m_euclid_last_a m_euclid_last_b m_euclid_lastOfFirst_a m_euclid_lastOfFirst_b m_euclid_lastOfSecond_a m_euclid_lastOfSecond_b m_euclid_next_a m_euclid_next_b m_euclid_nextOfFirst_a m_euclid_nextOfFirst_b m_euclid_nextOfSecond_a m_euclid_nextOfSecond_b m_euclid_q_a m_euclid_q_b m_euclid_quotientA m_euclid_quotientB m_modulus_step m_modulus_width m_modulus_slant m_modulus_square_a m_modulus_square_b m_factors_count m_factors_threes m_factors_unit m_factors_primeA m_factors_primeB m_factors_norms m_factors_euclid_count m_factors_euclid_last_a m_factors_euclid_last_b m_factors_euclid_lastOfFirst_a m_factors_euclid_lastOfFirst_b m_factors_euclid_lastOfSecond_a m_factors_euclid_lastOfSecond_b m_factors_euclid_next_a m_factors_euclid_next_b m_factors_euclid_nextOfFirst_a m_factors_euclid_nextOfFirst_b m_factors_euclid_nextOfSecond_a m_factors_euclid_nextOfSecond_b m_factors_euclid_q_a m_factors_euclid_q_b m_factors_euclid_quotientA m_factors_euclid_quotientB m_factors_left_a m_factors_left_b m_factors_found_a m_factors_found_b m_factors_product_a m_factors_product_b m_primes_count m_primes_primeA m_primes_primeB m_primes_found_a m_primes_found_b m_rings_foundA m_rings_foundB m_rings_all m_rings_mostOfOneRow m_letters_count m_letters_bytes m_one_a m_one_b m_two_a m_two_b m_three_a m_three_b m_four_a m_four_b m_out_a m_out_b m_spare_a m_spare_b m_marks) (wC T h m_drawers_full m_drawers_kept m_drawers_partA m_drawers_partB m_drawers_keptA m_drawers_keptB m_drawers_keptFull m_tape_size m_tape_plain m_tape_omegas m_tape_end m_tape_place m_tape_plainTold m_tape_omegasTold m_tape_bytes m_euclid_count m_euclid_last_a m_euclid_last_b m_euclid_lastOfFirst_a m_euclid_lastOfFirst_b m_euclid_lastOfSecond_a m_euclid_lastOfSecond_b m_euclid_next_a m_euclid_next_b m_euclid_nextOfFirst_a m_euclid_nextOfFirst_b m_euclid_nextOfSecond_a m_euclid_nextOfSecond_b m_euclid_q_a m_euclid_q_b m_euclid_quotientA m_euclid_quotientB x.2.1 x.2.2.1 x.2.2.2.1 x.2.2.2.2.1 x.2.2.2.2.2.1 m_factors_count m_factors_threes m_factors_unit m_factors_primeA m_factors_primeB m_factors_norms m_factors_euclid_count m_factors_euclid_last_a m_factors_euclid_last_b m_factors_euclid_lastOfFirst_a m_factors_euclid_lastOfFirst_b m_factors_euclid_lastOfSecond_a m_factors_euclid_lastOfSecond_b m_factors_euclid_next_a m_factors_euclid_next_b m_factors_euclid_nextOfFirst_a m_factors_euclid_nextOfFirst_b m_factors_euclid_nextOfSecond_a m_factors_euclid_nextOfSecond_b m_factors_euclid_q_a m_factors_euclid_q_b m_factors_euclid_quotientA m_factors_euclid_quotientB m_factors_left_a m_factors_left_b m_factors_found_a m_factors_found_b m_factors_product_a m_factors_product_b m_primes_count m_primes_primeA m_primes_primeB m_primes_found_a m_primes_found_b m_rings_foundA m_rings_foundB m_rings_all m_rings_mostOfOneRow m_letters_count m_letters_bytes m_one_a m_one_b m_two_a m_two_b m_three_a m_three_b x.2.2.2.2.2.2.1 x.2.2.2.2.2.2.2.1 x.2.2.2.2.2.2.2.2.1 x.2.2.2.2.2.2.2.2.2 m_spare_a m_spare_b m_marks) x.1 := by
  refine kx_ofMI RX10 rfl (plainFor_of_name (x := yX10_signByPrime) kpn_X10) rfl ?_
  intro E A H ls _ C X R hl
  have hl : lv_has ls 3 [(0, .ref (h 0)), (1, .ref (h 45)), (2, .ref (h 50))] := hl
  rw [f_X10_signByPrime] at hf
  refine x_aload_n 1 C dX10_signByPrime_0 hl 0 rfl rfl ?_
  refine x_get 4 C dX10_signByPrime_1 X kf_X10_35 0 rfl rfl rfl ?_
  refine x_aload_n 5 C dX10_signByPrime_4 hl 2 rfl rfl ?_
  obtain ⟨y5, hy5, hf⟩ := kx_bind hf
  refine x_callVi 8 C dX10_signByPrime_5 X hl kl_X10_284 (c_X4_open E.2.1 D T (h 19) (h 20) (h 50) N  m_modulus_step m_modulus_width m_modulus_slant m_spare_a m_spare_b y5 hy5) rfl rfl [] rfl rfl rfl rfl rfl cb_85 rfl (fun H locs X => ?_)
  refine x_pop 9 C dX10_signByPrime_8 rfl rfl ?_
  refine x_aload_n 10 C dX10_signByPrime_9 hl 0 rfl rfl ?_
  refine x_get 13 C dX10_signByPrime_10 X kf_X10_35 0 rfl rfl rfl ?_
  refine x_aload_n 14 C dX10_signByPrime_13 hl 1 rfl rfl ?_
  refine x_aload_n 15 C dX10_signByPrime_14 hl 2 rfl rfl ?_
  obtain ⟨y15, hy15, hf⟩ := kx_bind hf
  refine x_callVl 18 C dX10_signByPrime_15 X hl kl_X10_152 (c_X5_norm E.2.1 D T (h 50)  m_spare_a m_spare_b y15 hy15) rfl rfl [.ref (h 45), .ref (h 19)] rfl rfl rfl rfl rfl cb_8 rfl (fun H locs X => ?_)
  refine x_lconst 19 C dX10_signByPrime_18 (1 : Int64) kv_lconst_1 rfl ?_
  refine x_lsub 20 C dX10_signByPrime_19 rfl ?_
  refine x_ldc2_w 23 C dX10_signByPrime_20 (3 : Int64) kc_X10_377 rfl ?_
  refine x_ldiv0 24 C dX10_signByPrime_23 kz_l_3 rfl ?_
  refine x_aload_n 25 C dX10_signByPrime_24 hl 0 rfl rfl ?_
  refine x_get 28 C dX10_signByPrime_25 X kf_X10_83 0 rfl rfl rfl ?_
  obtain ⟨y28, hy28, hf⟩ := kx_bind hf
  refine x_callVv 31 C dX10_signByPrime_28 X hl kl_X10_276 (c_X4_raise E.2.1 D T (h 19) (h 20) (h 45) (h 49) N ((y15 - (1 : Int64)) / (3 : Int64)) y5.2.1 y5.2.2.1 y5.2.2.2 m_modulus_square_a m_modulus_square_b m_one_a m_one_b m_out_a m_out_b y28 hy28) rfl rfl [] rfl rfl rfl rfl rfl cb_86 rfl (fun H locs X => ?_)
  refine x_aload_n 32 C dX10_signByPrime_31 hl 0 rfl rfl ?_
  refine x_get 35 C dX10_signByPrime_32 X kf_X10_83 0 rfl rfl rfl ?_
  obtain ⟨y35, hy35, hf⟩ := kx_bind hf
  refine x_callVi 38 C dX10_signByPrime_35 X hl kl_X10_170 (c_X5_isNought E.2.1 D T (h 49)  y28.2.2.1 y28.2.2.2 y35 hy35) rfl rfl [] rfl rfl rfl rfl rfl cb_64 rfl (fun H locs X => ?_)
  refine x_if_eq 43 41 C dX10_signByPrime_38 rfl rfl hf (fun hf => ?_) (fun hf => ?_)
  · refine x_aload_n 44 C dX10_signByPrime_43 hl 0 rfl rfl ?_
    refine x_get 47 C dX10_signByPrime_44 X kf_X10_83 0 rfl rfl rfl ?_
    refine x_lconst 48 C dX10_signByPrime_47 (1 : Int64) kv_lconst_1 rfl ?_
    refine x_lconst 49 C dX10_signByPrime_48 (0 : Int64) kv_lconst_0 rfl ?_
    obtain ⟨y49, hy49, hf⟩ := kx_bind hf
    refine x_callVi 52 C dX10_signByPrime_49 X hl kl_X10_389 (c_X5_isSame_ E.2.1 D T (h 49) (1 : Int64) (0 : Int64) y28.2.2.1 y28.2.2.2 y49 hy49) rfl rfl [] rfl rfl rfl rfl rfl cb_64 rfl (fun H locs X => ?_)
    refine x_if_eq 57 55 C dX10_signByPrime_52 rfl rfl hf (fun hf => ?_) (fun hf => ?_)
    · refine x_aload_n 58 C dX10_signByPrime_57 hl 0 rfl rfl ?_
      refine x_get 61 C dX10_signByPrime_58 X kf_X10_80 0 rfl rfl rfl ?_
      refine x_lconst 62 C dX10_signByPrime_61 (0 : Int64) kv_lconst_0 rfl ?_
      refine x_lconst 63 C dX10_signByPrime_62 (1 : Int64) kv_lconst_1 rfl ?_
      obtain ⟨y63, hy63, hf⟩ := kx_bind hf
      refine x_callVv 66 C dX10_signByPrime_63 X hl kl_X10_122 (c_X5_set E.2.1 D T (h 48) (0 : Int64) (1 : Int64) m_four_a m_four_b y63 hy63) rfl rfl [] rfl rfl rfl rfl rfl cb_87 rfl (fun H locs X => ?_)
      refine x_aload_n 67 C dX10_signByPrime_66 hl 0 rfl rfl ?_
      refine x_get 70 C dX10_signByPrime_67 X kf_X10_35 0 rfl rfl rfl ?_
      refine x_aload_n 71 C dX10_signByPrime_70 hl 0 rfl rfl ?_
      refine x_get 74 C dX10_signByPrime_71 X kf_X10_80 0 rfl rfl rfl ?_
      obtain ⟨y74, hy74, hf⟩ := kx_bind hf
      refine x_callVv 77 C dX10_signByPrime_74 X hl kl_X10_270 (c_X4_reduce E.2.1 D T (h 19) (h 20) (h 48)  y5.2.1 y5.2.2.1 y5.2.2.2 y63.1 y63.2 y74 hy74) rfl rfl [] rfl rfl rfl rfl rfl cb_88 rfl (fun H locs X => ?_)
      refine x_aload_n 78 C dX10_signByPrime_77 hl 0 rfl rfl ?_
      refine x_get 81 C dX10_signByPrime_78 X kf_X10_83 0 rfl rfl rfl ?_
      refine x_aload_n 82 C dX10_signByPrime_81 hl 0 rfl rfl ?_
      refine x_get 85 C dX10_signByPrime_82 X kf_X10_80 0 rfl rfl rfl ?_
      obtain ⟨y85, hy85, hf⟩ := kx_bind hf
      refine x_callVi 88 C dX10_signByPrime_85 X hl kl_X10_314 (c_X5_isSame E.2.1 D T (h 49) (h 48)  y28.2.2.1 y28.2.2.2 y74.1 y74.2 y85 hy85) rfl rfl [] rfl rfl rfl rfl rfl cb_89 rfl (fun H locs X => ?_)
      refine x_if_eq 95 91 C dX10_signByPrime_88 rfl rfl hf (fun hf => ?_) (fun hf => ?_)
      · refine x_iconst 96 C dX10_signByPrime_95 (2 : Int32) kv_iconst_2 rfl ?_
        obtain rfl := Option.some.inj hf
        exact R _ _ _ _ X dX10_signByPrime_96
      refine x_iconst 92 C dX10_signByPrime_91 (1 : Int32) kv_iconst_1 rfl ?_
      refine x_goto 96 C dX10_signByPrime_92 rfl ?_
      obtain rfl := Option.some.inj hf
      exact R _ _ _ _ X dX10_signByPrime_96
    refine x_iconst 56 C dX10_signByPrime_55 (0 : Int32) kv_iconst_0 rfl ?_
    obtain rfl := Option.some.inj hf
    exact R _ _ _ _ X dX10_signByPrime_56
  refine x_iconst 42 C dX10_signByPrime_41 (3 : Int32) kv_iconst_3 rfl ?_
  obtain rfl := Option.some.inj hf
  exact R _ _ _ _ X dX10_signByPrime_42
set_option maxHeartbeats 4000000 in
set_option maxRecDepth 100000 in
theorem c_X10_signBy (l : Launch) (D : va_G) (T : KT) (h : Nat → Nat) (N : Nat) (v1 v2 v3 : Int32) (m_drawers_full m_drawers_kept : Int32) (m_drawers_partA m_drawers_partB m_drawers_keptA m_drawers_keptB m_drawers_keptFull : Nat → Int32) (m_tape_size m_tape_plain m_tape_omegas m_tape_end m_tape_place m_tape_plainTold m_tape_omegasTold : Int32) (m_tape_bytes : Nat → Int32) (m_euclid_count : Int32) (m_euclid_last_a m_euclid_last_b m_euclid_lastOfFirst_a m_euclid_lastOfFirst_b m_euclid_lastOfSecond_a m_euclid_lastOfSecond_b m_euclid_next_a m_euclid_next_b m_euclid_nextOfFirst_a m_euclid_nextOfFirst_b m_euclid_nextOfSecond_a m_euclid_nextOfSecond_b m_euclid_q_a m_euclid_q_b : Int64) (m_euclid_quotientA m_euclid_quotientB : Nat → Int64) (m_modulus_step m_modulus_width m_modulus_slant m_modulus_square_a m_modulus_square_b : Int64) (m_factors_count m_factors_threes m_factors_unit : Int32) (m_factors_primeA m_factors_primeB m_factors_norms : Nat → Int64) (m_factors_euclid_count : Int32) (m_factors_euclid_last_a m_factors_euclid_last_b m_factors_euclid_lastOfFirst_a m_factors_euclid_lastOfFirst_b m_factors_euclid_lastOfSecond_a m_factors_euclid_lastOfSecond_b m_factors_euclid_next_a m_factors_euclid_next_b m_factors_euclid_nextOfFirst_a m_factors_euclid_nextOfFirst_b m_factors_euclid_nextOfSecond_a m_factors_euclid_nextOfSecond_b m_factors_euclid_q_a m_factors_euclid_q_b : Int64) (m_factors_euclid_quotientA m_factors_euclid_quotientB : Nat → Int64) (m_factors_left_a m_factors_left_b m_factors_found_a m_factors_found_b m_factors_product_a m_factors_product_b : Int64) (m_primes_count : Int32) (m_primes_primeA m_primes_primeB : Nat → Int32) (m_primes_found_a m_primes_found_b : Int64) (m_rings_foundA m_rings_foundB m_rings_all m_rings_mostOfOneRow m_letters_count : Int32) (m_letters_bytes : Nat → Int32) (m_one_a m_one_b m_two_a m_two_b m_three_a m_three_b m_four_a m_four_b m_out_a m_out_b m_spare_a m_spare_b : Int64) (m_marks : Nat → Int32) (x : Int32 × Int64 × Int64 × Int64 × Int64 × Int64 × Int32 × Int32 × Int32 × (Nat → Int64) × (Nat → Int64) × (Nat → Int64) × Int32 × Int64 × Int64 × Int64 × Int64 × Int64 × Int64 × Int64 × Int64 × Int64 × Int64 × Int64 × Int64 × Int64 × Int64 × (Nat → Int64) × (Nat → Int64) × Int64 × Int64 × Int64 × Int64 × Int64 × Int64 × Int64 × Int64 × Int64 × Int64 × Int64 × Int64 × Int64 × Int64 × Int64 × Int64) (hf : f_X10_signBy N v1 v2 v3 m_drawers_full m_drawers_partA m_drawers_partB m_modulus_step m_modulus_width m_modulus_slant m_modulus_square_a m_modulus_square_b m_factors_count m_factors_threes m_factors_unit m_factors_primeA m_factors_primeB m_factors_norms m_factors_euclid_count m_factors_euclid_last_a m_factors_euclid_last_b m_factors_euclid_lastOfFirst_a m_factors_euclid_lastOfFirst_b m_factors_euclid_lastOfSecond_a m_factors_euclid_lastOfSecond_b m_factors_euclid_next_a m_factors_euclid_next_b m_factors_euclid_nextOfFirst_a m_factors_euclid_nextOfFirst_b m_factors_euclid_nextOfSecond_a m_factors_euclid_nextOfSecond_b m_factors_euclid_q_a m_factors_euclid_q_b m_factors_euclid_quotientA m_factors_euclid_quotientB m_factors_left_a m_factors_left_b m_factors_found_a m_factors_found_b m_factors_product_a m_factors_product_b m_one_a m_one_b m_two_a m_two_b m_four_a m_four_b m_out_a m_out_b m_spare_a m_spare_b = some x) : kx_MI l yX10_signBy cX10_signBy 5 (some .int) 6 146 D T [.ref (h 0), .int v1, .int v2, .int v3] (wC T h m_drawers_full m_drawers_kept m_drawers_partA m_drawers_partB m_drawers_keptA m_drawers_keptB m_drawers_keptFull m_tape_size m_tape_plain m_tape_omegas m_tape_end m_tape_place m_tape_plainTold m_tape_omegasTold m_tape_bytes m_euclid_count m_euclid_last_a m_euclid_last_b m_euclid_lastOfFirst_a m_euclid_lastOfFirst_b m_euclid_lastOfSecond_a m_euclid_lastOfSecond_b m_euclid_next_a m_euclid_next_b m_euclid_nextOfFirst_a m_euclid_nextOfFirst_b m_euclid_nextOfSecond_a m_euclid_nextOfSecond_b m_euclid_q_a m_euclid_q_b m_euclid_quotientA m_euclid_quotientB m_modulus_step m_modulus_width m_modulus_slant m_modulus_square_a m_modulus_square_b m_factors_count m_factors_threes m_factors_unit m_factors_primeA m_factors_primeB m_factors_norms m_factors_euclid_count m_factors_euclid_last_a m_factors_euclid_last_b m_factors_euclid_lastOfFirst_a m_factors_euclid_lastOfFirst_b m_factors_euclid_lastOfSecond_a m_factors_euclid_lastOfSecond_b m_factors_euclid_next_a m_factors_euclid_next_b m_factors_euclid_nextOfFirst_a m_factors_euclid_nextOfFirst_b m_factors_euclid_nextOfSecond_a m_factors_euclid_nextOfSecond_b m_factors_euclid_q_a m_factors_euclid_q_b m_factors_euclid_quotientA m_factors_euclid_quotientB m_factors_left_a m_factors_left_b m_factors_found_a m_factors_found_b m_factors_product_a m_factors_product_b m_primes_count m_primes_primeA m_primes_primeB m_primes_found_a m_primes_found_b m_rings_foundA m_rings_foundB m_rings_all m_rings_mostOfOneRow m_letters_count m_letters_bytes m_one_a m_one_b m_two_a m_two_b m_three_a m_three_b m_four_a m_four_b m_out_a m_out_b m_spare_a m_spare_b m_marks) (wC T h m_drawers_full m_drawers_kept m_drawers_partA m_drawers_partB m_drawers_keptA m_drawers_keptB m_drawers_keptFull m_tape_size m_tape_plain m_tape_omegas m_tape_end m_tape_place m_tape_plainTold m_tape_omegasTold m_tape_bytes m_euclid_count m_euclid_last_a m_euclid_last_b m_euclid_lastOfFirst_a m_euclid_lastOfFirst_b m_euclid_lastOfSecond_a m_euclid_lastOfSecond_b m_euclid_next_a m_euclid_next_b m_euclid_nextOfFirst_a m_euclid_nextOfFirst_b m_euclid_nextOfSecond_a m_euclid_nextOfSecond_b m_euclid_q_a m_euclid_q_b m_euclid_quotientA m_euclid_quotientB x.2.1 x.2.2.1 x.2.2.2.1 x.2.2.2.2.1 x.2.2.2.2.2.1 x.2.2.2.2.2.2.1 x.2.2.2.2.2.2.2.1 x.2.2.2.2.2.2.2.2.1 x.2.2.2.2.2.2.2.2.2.1 x.2.2.2.2.2.2.2.2.2.2.1 x.2.2.2.2.2.2.2.2.2.2.2.1 x.2.2.2.2.2.2.2.2.2.2.2.2.1 x.2.2.2.2.2.2.2.2.2.2.2.2.2.1 x.2.2.2.2.2.2.2.2.2.2.2.2.2.2.1 x.2.2.2.2.2.2.2.2.2.2.2.2.2.2.2.1 x.2.2.2.2.2.2.2.2.2.2.2.2.2.2.2.2.1 x.2.2.2.2.2.2.2.2.2.2.2.2.2.2.2.2.2.1 x.2.2.2.2.2.2.2.2.2.2.2.2.2.2.2.2.2.2.1 x.2.2.2.2.2.2.2.2.2.2.2.2.2.2.2.2.2.2.2.1 x.2.2.2.2.2.2.2.2.2.2.2.2.2.2.2.2.2.2.2.2.1 x.2.2.2.2.2.2.2.2.2.2.2.2.2.2.2.2.2.2.2.2.2.1 x.2.2.2.2.2.2.2.2.2.2.2.2.2.2.2.2.2.2.2.2.2.2.1 x.2.2.2.2.2.2.2.2.2.2.2.2.2.2.2.2.2.2.2.2.2.2.2.1 x.2.2.2.2.2.2.2.2.2.2.2.2.2.2.2.2.2.2.2.2.2.2.2.2.1 x.2.2.2.2.2.2.2.2.2.2.2.2.2.2.2.2.2.2.2.2.2.2.2.2.2.1 x.2.2.2.2.2.2.2.2.2.2.2.2.2.2.2.2.2.2.2.2.2.2.2.2.2.2.1 x.2.2.2.2.2.2.2.2.2.2.2.2.2.2.2.2.2.2.2.2.2.2.2.2.2.2.2.1 x.2.2.2.2.2.2.2.2.2.2.2.2.2.2.2.2.2.2.2.2.2.2.2.2.2.2.2.2.1 x.2.2.2.2.2.2.2.2.2.2.2.2.2.2.2.2.2.2.2.2.2.2.2.2.2.2.2.2.2.1 x.2.2.2.2.2.2.2.2.2.2.2.2.2.2.2.2.2.2.2.2.2.2.2.2.2.2.2.2.2.2.1 x.2.2.2.2.2.2.2.2.2.2.2.2.2.2.2.2.2.2.2.2.2.2.2.2.2.2.2.2.2.2.2.1 x.2.2.2.2.2.2.2.2.2.2.2.2.2.2.2.2.2.2.2.2.2.2.2.2.2.2.2.2.2.2.2.2.1 x.2.2.2.2.2.2.2.2.2.2.2.2.2.2.2.2.2.2.2.2.2.2.2.2.2.2.2.2.2.2.2.2.2.1 x.2.2.2.2.2.2.2.2.2.2.2.2.2.2.2.2.2.2.2.2.2.2.2.2.2.2.2.2.2.2.2.2.2.2.1 m_primes_count m_primes_primeA m_primes_primeB m_primes_found_a m_primes_found_b m_rings_foundA m_rings_foundB m_rings_all m_rings_mostOfOneRow m_letters_count m_letters_bytes x.2.2.2.2.2.2.2.2.2.2.2.2.2.2.2.2.2.2.2.2.2.2.2.2.2.2.2.2.2.2.2.2.2.2.2.1 x.2.2.2.2.2.2.2.2.2.2.2.2.2.2.2.2.2.2.2.2.2.2.2.2.2.2.2.2.2.2.2.2.2.2.2.2.1 x.2.2.2.2.2.2.2.2.2.2.2.2.2.2.2.2.2.2.2.2.2.2.2.2.2.2.2.2.2.2.2.2.2.2.2.2.2.1 x.2.2.2.2.2.2.2.2.2.2.2.2.2.2.2.2.2.2.2.2.2.2.2.2.2.2.2.2.2.2.2.2.2.2.2.2.2.2.1 m_three_a m_three_b x.2.2.2.2.2.2.2.2.2.2.2.2.2.2.2.2.2.2.2.2.2.2.2.2.2.2.2.2.2.2.2.2.2.2.2.2.2.2.2.1 x.2.2.2.2.2.2.2.2.2.2.2.2.2.2.2.2.2.2.2.2.2.2.2.2.2.2.2.2.2.2.2.2.2.2.2.2.2.2.2.2.1 x.2.2.2.2.2.2.2.2.2.2.2.2.2.2.2.2.2.2.2.2.2.2.2.2.2.2.2.2.2.2.2.2.2.2.2.2.2.2.2.2.2.1 x.2.2.2.2.2.2.2.2.2.2.2.2.2.2.2.2.2.2.2.2.2.2.2.2.2.2.2.2.2.2.2.2.2.2.2.2.2.2.2.2.2.2.1 x.2.2.2.2.2.2.2.2.2.2.2.2.2.2.2.2.2.2.2.2.2.2.2.2.2.2.2.2.2.2.2.2.2.2.2.2.2.2.2.2.2.2.2.1 x.2.2.2.2.2.2.2.2.2.2.2.2.2.2.2.2.2.2.2.2.2.2.2.2.2.2.2.2.2.2.2.2.2.2.2.2.2.2.2.2.2.2.2.2 m_marks) x.1 := by
  refine kx_ofMI RX10 rfl (plainFor_of_name (x := yX10_signBy) kpn_X10) rfl ?_
  intro E A H ls _ C X R hl
  have hl : lv_has ls 5 [(0, .ref (h 0)), (1, .int v1), (2, .int v2), (3, .int v3)] := hl
  rw [f_X10_signBy] at hf
  refine x_iload_n 1 C dX10_signBy_0 hl 3 rfl rfl ?_
  refine x_if_ge 6 4 C dX10_signBy_1 rfl rfl hf (fun hf => ?_) (fun hf => ?_)
  · refine x_aload_n 7 C dX10_signBy_6 hl 0 rfl rfl ?_
    refine x_iload_n 8 C dX10_signBy_7 hl 1 rfl rfl ?_
    refine x_iload_n 9 C dX10_signBy_8 hl 2 rfl rfl ?_
    obtain ⟨y9, hy9, hf⟩ := kx_bind hf
    refine x_callVi0 12 C dX10_signBy_9 X hl kl_X10_176 (c_X10_loadTwo E.2.1 D T h v1 v2 m_drawers_full m_drawers_kept m_drawers_partA m_drawers_partB m_drawers_keptA m_drawers_keptB m_drawers_keptFull m_tape_size m_tape_plain m_tape_omegas m_tape_end m_tape_place m_tape_plainTold m_tape_omegasTold m_tape_bytes m_euclid_count m_euclid_last_a m_euclid_last_b m_euclid_lastOfFirst_a m_euclid_lastOfFirst_b m_euclid_lastOfSecond_a m_euclid_lastOfSecond_b m_euclid_next_a m_euclid_next_b m_euclid_nextOfFirst_a m_euclid_nextOfFirst_b m_euclid_nextOfSecond_a m_euclid_nextOfSecond_b m_euclid_q_a m_euclid_q_b m_euclid_quotientA m_euclid_quotientB m_modulus_step m_modulus_width m_modulus_slant m_modulus_square_a m_modulus_square_b m_factors_count m_factors_threes m_factors_unit m_factors_primeA m_factors_primeB m_factors_norms m_factors_euclid_count m_factors_euclid_last_a m_factors_euclid_last_b m_factors_euclid_lastOfFirst_a m_factors_euclid_lastOfFirst_b m_factors_euclid_lastOfSecond_a m_factors_euclid_lastOfSecond_b m_factors_euclid_next_a m_factors_euclid_next_b m_factors_euclid_nextOfFirst_a m_factors_euclid_nextOfFirst_b m_factors_euclid_nextOfSecond_a m_factors_euclid_nextOfSecond_b m_factors_euclid_q_a m_factors_euclid_q_b m_factors_euclid_quotientA m_factors_euclid_quotientB m_factors_left_a m_factors_left_b m_factors_found_a m_factors_found_b m_factors_product_a m_factors_product_b m_primes_count m_primes_primeA m_primes_primeB m_primes_found_a m_primes_found_b m_rings_foundA m_rings_foundB m_rings_all m_rings_mostOfOneRow m_letters_count m_letters_bytes m_one_a m_one_b m_two_a m_two_b m_three_a m_three_b m_four_a m_four_b m_out_a m_out_b m_spare_a m_spare_b m_marks y9 hy9) rfl rfl [] rfl rfl rfl rfl rfl rfl (fun H locs X => ?_)
    refine x_istore 14 C dX10_signBy_12 [(4, .int y9.1), (0, .ref (h 0)), (1, .int v1), (2, .int v2), (3, .int v3)] hl rfl rfl rfl (fun ls hl => ?_)
    refine x_iload 16 C dX10_signBy_14 hl 0 rfl rfl ?_
    refine x_if_eq 22 19 C dX10_signBy_16 rfl rfl hf (fun hf => ?_) (fun hf => ?_)
    · refine x_aload_n 23 C dX10_signBy_22 hl 1 rfl rfl ?_
      refine x_get 26 C dX10_signBy_23 X kf_X10_74 0 rfl rfl rfl ?_
      obtain ⟨y26, hy26, hf⟩ := kx_bind hf
      refine x_callSi 29 C dX10_signBy_26 X hl kl_X10_259 (c_X10_bearsSigns E.2.1 D T (h 46)  y9.2.2.2.1 y9.2.2.2.2 y26 hy26) [] rfl rfl rfl rfl rfl cb_82 rfl (fun H locs X => ?_)
      refine x_if_ne 35 32 C dX10_signBy_29 rfl rfl hf (fun hf => ?_) (fun hf => ?_)
      · refine x_aload_n 36 C dX10_signBy_35 hl 1 rfl rfl ?_
        refine x_get 39 C dX10_signBy_36 X kf_X10_42 0 rfl rfl rfl ?_
        refine x_aload_n 40 C dX10_signBy_39 hl 1 rfl rfl ?_
        refine x_get 43 C dX10_signBy_40 X kf_X10_74 0 rfl rfl rfl ?_
        obtain ⟨y43, hy43, hf⟩ := kx_bind hf
        refine x_callVv 46 C dX10_signBy_43 X hl kl_X10_228 (c_X2_spell E.2.1 D T (h 21) (h 22) (h 23) (h 24) (h 25) (h 26) (h 27) (h 28) (h 29) (h 30) (h 31) (h 32) (h 33) (h 34) (h 35) (h 36) (h 37) (h 46) N  m_factors_count m_factors_threes m_factors_unit m_factors_primeA m_factors_primeB m_factors_norms m_factors_euclid_count m_factors_euclid_last_a m_factors_euclid_last_b m_factors_euclid_lastOfFirst_a m_factors_euclid_lastOfFirst_b m_factors_euclid_lastOfSecond_a m_factors_euclid_lastOfSecond_b m_factors_euclid_next_a m_factors_euclid_next_b m_factors_euclid_nextOfFirst_a m_factors_euclid_nextOfFirst_b m_factors_euclid_nextOfSecond_a m_factors_euclid_nextOfSecond_b m_factors_euclid_q_a m_factors_euclid_q_b m_factors_euclid_quotientA m_factors_euclid_quotientB m_factors_left_a m_factors_left_b m_factors_found_a m_factors_found_b m_factors_product_a m_factors_product_b y9.2.2.2.1 y9.2.2.2.2 y43 hy43) rfl rfl [] rfl rfl rfl rfl rfl cb_83 rfl (fun H locs X => ?_)
        refine x_iload_n 47 C dX10_signBy_46 hl 4 rfl rfl ?_
        refine x_aload_n 48 C dX10_signBy_47 hl 1 rfl rfl ?_
        refine x_get 51 C dX10_signBy_48 X kf_X10_42 0 rfl rfl rfl ?_
        refine x_get 54 C dX10_signBy_51 X kf_X10_231 21 rfl rfl rfl ?_
        refine x_icmp_lt 60 57 C dX10_signBy_54 rfl rfl hf (fun hf => ?_) (fun hf => ?_)
        · refine x_aload_n 61 C dX10_signBy_60 hl 1 rfl rfl ?_
          refine x_get 64 C dX10_signBy_61 X kf_X10_42 0 rfl rfl rfl ?_
          refine x_iload_n 65 C dX10_signBy_64 hl 4 rfl rfl ?_
          refine x_aload_n 66 C dX10_signBy_65 hl 1 rfl rfl ?_
          refine x_get 69 C dX10_signBy_66 X kf_X10_86 0 rfl rfl rfl ?_
          obtain ⟨y69, hy69, hf⟩ := kx_bind hf
          refine x_callVv 72 C dX10_signBy_69 X hl kl_X10_240 (c_X2_load E.2.1 D T (h 21) (h 22) (h 23) (h 24) (h 25) (h 35) (h 36) (h 37) (h 50) v3 y43.1 y43.2.1 y43.2.2.1 y43.2.2.2.1 y43.2.2.2.2.1 m_spare_a m_spare_b y69 hy69) rfl rfl [] rfl rfl rfl rfl rfl cb_84 rfl (fun H locs X => ?_)
          refine x_aload_n 73 C dX10_signBy_72 hl 1 rfl rfl ?_
          refine x_aload_n 74 C dX10_signBy_73 hl 1 rfl rfl ?_
          refine x_get 77 C dX10_signBy_74 X kf_X10_70 0 rfl rfl rfl ?_
          refine x_aload_n 78 C dX10_signBy_77 hl 1 rfl rfl ?_
          refine x_get 81 C dX10_signBy_78 X kf_X10_86 0 rfl rfl rfl ?_
          obtain ⟨y81, hy81, hf⟩ := kx_bind hf
          refine x_callVi0 84 C dX10_signBy_81 X hl kl_X10_262 (c_X10_signByPrime_p1_one_p2_spare E.2.1 D T h N  m_drawers_full m_drawers_kept m_drawers_partA m_drawers_partB m_drawers_keptA m_drawers_keptB m_drawers_keptFull m_tape_size m_tape_plain m_tape_omegas m_tape_end m_tape_place m_tape_plainTold m_tape_omegasTold m_tape_bytes m_euclid_count m_euclid_last_a m_euclid_last_b m_euclid_lastOfFirst_a m_euclid_lastOfFirst_b m_euclid_lastOfSecond_a m_euclid_lastOfSecond_b m_euclid_next_a m_euclid_next_b m_euclid_nextOfFirst_a m_euclid_nextOfFirst_b m_euclid_nextOfSecond_a m_euclid_nextOfSecond_b m_euclid_q_a m_euclid_q_b m_euclid_quotientA m_euclid_quotientB m_modulus_step m_modulus_width m_modulus_slant m_modulus_square_a m_modulus_square_b y43.1 y43.2.1 y43.2.2.1 y43.2.2.2.1 y43.2.2.2.2.1 y43.2.2.2.2.2.1 y43.2.2.2.2.2.2.1 y43.2.2.2.2.2.2.2.1 y43.2.2.2.2.2.2.2.2.1 y43.2.2.2.2.2.2.2.2.2.1 y43.2.2.2.2.2.2.2.2.2.2.1 y43.2.2.2.2.2.2.2.2.2.2.2.1 y43.2.2.2.2.2.2.2.2.2.2.2.2.1 y43.2.2.2.2.2.2.2.2.2.2.2.2.2.1 y43.2.2.2.2.2.2.2.2.2.2.2.2.2.2.1 y43.2.2.2.2.2.2.2.2.2.2.2.2.2.2.2.1 y43.2.2.2.2.2.2.2.2.2.2.2.2.2.2.2.2.1 y43.2.2.2.2.2.2.2.2.2.2.2.2.2.2.2.2.2.1 y43.2.2.2.2.2.2.2.2.2.2.2.2.2.2.2.2.2.2.1 y43.2.2.2.2.2.2.2.2.2.2.2.2.2.2.2.2.2.2.2.1 y43.2.2.2.2.2.2.2.2.2.2.2.2.2.2.2.2.2.2.2.2.1 y43.2.2.2.2.2.2.2.2.2.2.2.2.2.2.2.2.2.2.2.2.2.1 y43.2.2.2.2.2.2.2.2.2.2.2.2.2.2.2.2.2.2.2.2.2.2.1 y43.2.2.2.2.2.2.2.2.2.2.2.2.2.2.2.2.2.2.2.2.2.2.2.1 y43.2.2.2.2.2.2.2.2.2.2.2.2.2.2.2.2.2.2.2.2.2.2.2.2.1 y43.2.2.2.2.2.2.2.2.2.2.2.2.2.2.2.2.2.2.2.2.2.2.2.2.2.1 y43.2.2.2.2.2.2.2.2.2.2.2.2.2.2.2.2.2.2.2.2.2.2.2.2.2.2.1 y43.2.2.2.2.2.2.2.2.2.2.2.2.2.2.2.2.2.2.2.2.2.2.2.2.2.2.2.1 y43.2.2.2.2.2.2.2.2.2.2.2.2.2.2.2.2.2.2.2.2.2.2.2.2.2.2.2.2 m_primes_count m_primes_primeA m_primes_primeB m_primes_found_a m_primes_found_b m_rings_foundA m_rings_foundB m_rings_all m_rings_mostOfOneRow m_letters_count m_letters_bytes y9.2.1 y9.2.2.1 y9.2.2.2.1 y9.2.2.2.2 m_three_a m_three_b m_four_a m_four_b m_out_a m_out_b y69.1 y69.2 m_marks y81 hy81) rfl rfl [] rfl rfl rfl rfl rfl rfl (fun H locs X => ?_)
          obtain rfl := Option.some.inj hf
          exact R _ _ _ _ X dX10_signBy_84
        refine x_bipush 59 C dX10_signBy_57 (-4 : Int32) kv_bipush_m4 rfl ?_
        obtain rfl := Option.some.inj hf
        exact R _ _ _ _ X dX10_signBy_59
      refine x_bipush 34 C dX10_signBy_32 (-3 : Int32) kv_bipush_m3 rfl ?_
      obtain rfl := Option.some.inj hf
      exact R _ _ _ _ X dX10_signBy_34
    refine x_iload 21 C dX10_signBy_19 hl 0 rfl rfl ?_
    obtain rfl := Option.some.inj hf
    exact R _ _ _ _ X dX10_signBy_21
  refine x_iconst 5 C dX10_signBy_4 (-1 : Int32) kv_iconst_m1 rfl ?_
  obtain rfl := Option.some.inj hf
  exact R _ _ _ _ X dX10_signBy_5
set_option maxHeartbeats 4000000 in
set_option maxRecDepth 100000 in
theorem c_X11_hasBoth (l : Launch) (D : va_G) (T : KT) (h : Nat → Nat) (v1 v2 : Int32) (m_taped m_states : Int32) (m_ra m_rb : Int64) (m_threes m_primes m_ones m_unit : Int32) (m_allParts m_allNorms m_allClasses : Int64) (m_odd : Int32) (m_boxWide m_boxHigh m_boxStep : Int64) (m_partingMany : Int32) (m_qa m_qb m_la m_lb m_sa m_sb m_ta m_tb : Int64) (m_listed m_tells m_wanted m_found : Int32) (m_bits : Int64) (m_power2 m_rings m_ringA m_ringB m_seedNow : Int32) (m_tape m_has m_keptHas m_first m_second m_keptFirst m_keptSecond m_pa m_pb m_pNorm m_cubed m_isOpen m_signs m_often m_la0 m_lb0 : Nat → Int32) (x : Int32) (hf : f_X11_hasBoth v1 v2 m_has = some x) : kx_MI l yX11_hasBoth cX11_hasBoth 3 (some .boolean) 0 0 D T [.ref (h 0), .int v1, .int v2] (wM T h m_taped m_states m_ra m_rb m_threes m_primes m_ones m_unit m_allParts m_allNorms m_allClasses m_odd m_boxWide m_boxHigh m_boxStep m_partingMany m_qa m_qb m_la m_lb m_sa m_sb m_ta m_tb m_listed m_tells m_wanted m_found m_bits m_power2 m_rings m_ringA m_ringB m_seedNow m_tape m_has m_keptHas m_first m_second m_keptFirst m_keptSecond m_pa m_pb m_pNorm m_cubed m_isOpen m_signs m_often m_la0 m_lb0) (wM T h m_taped m_states m_ra m_rb m_threes m_primes m_ones m_unit m_allParts m_allNorms m_allClasses m_odd m_boxWide m_boxHigh m_boxStep m_partingMany m_qa m_qb m_la m_lb m_sa m_sb m_ta m_tb m_listed m_tells m_wanted m_found m_bits m_power2 m_rings m_ringA m_ringB m_seedNow m_tape m_has m_keptHas m_first m_second m_keptFirst m_keptSecond m_pa m_pb m_pNorm m_cubed m_isOpen m_signs m_often m_la0 m_lb0) x := by
  refine kx_ofMZ RX11 rfl (plainFor_of_name (x := yX11_hasBoth) kpn_X11) rfl ?_
  intro E A H ls _ C X R hl
  have hl : lv_has ls 3 [(0, .ref (h 0)), (1, .int v1), (2, .int v2)] := hl
  rw [f_X11_hasBoth] at hf
  refine x_aload_n 1 C dX11_hasBoth_0 hl 0 rfl rfl ?_
  refine x_get 4 C dX11_hasBoth_1 X kf_X11_13 0 rfl rfl rfl ?_
  refine x_iload_n 5 C dX11_hasBoth_4 hl 1 rfl rfl ?_
  refine x_zald 6 C dX11_hasBoth_5 X 2 rfl hf rfl (fun hf => ?_)
  refine x_if_eq 22 9 C dX11_hasBoth_6 rfl rfl hf (fun hf => ?_) (fun hf => ?_)
  · refine x_iconst 23 C dX11_hasBoth_22 (0 : Int32) kv_iconst_0 rfl ?_
    obtain rfl := Option.some.inj hf
    exact R _ _ _ _ X kb_0 dX11_hasBoth_23
  refine x_aload_n 10 C dX11_hasBoth_9 hl 0 rfl rfl ?_
  refine x_get 13 C dX11_hasBoth_10 X kf_X11_13 0 rfl rfl rfl ?_
  refine x_iload_n 14 C dX11_hasBoth_13 hl 2 rfl rfl ?_
  refine x_zald 15 C dX11_hasBoth_14 X 2 rfl hf rfl (fun hf => ?_)
  refine x_if_eq 22 18 C dX11_hasBoth_15 rfl rfl hf (fun hf => ?_) (fun hf => ?_)
  · refine x_iconst 23 C dX11_hasBoth_22 (0 : Int32) kv_iconst_0 rfl ?_
    obtain rfl := Option.some.inj hf
    exact R _ _ _ _ X kb_0 dX11_hasBoth_23
  refine x_iconst 19 C dX11_hasBoth_18 (1 : Int32) kv_iconst_1 rfl ?_
  refine x_goto 23 C dX11_hasBoth_19 rfl ?_
  obtain rfl := Option.some.inj hf
  exact R _ _ _ _ X kb_1 dX11_hasBoth_23
set_option maxHeartbeats 4000000 in
set_option maxRecDepth 100000 in
theorem c_X11_hasSign (l : Launch) (D : va_G) (T : KT) (h : Nat → Nat) (v1 : Int32) (m_taped m_states : Int32) (m_ra m_rb : Int64) (m_threes m_primes m_ones m_unit : Int32) (m_allParts m_allNorms m_allClasses : Int64) (m_odd : Int32) (m_boxWide m_boxHigh m_boxStep : Int64) (m_partingMany : Int32) (m_qa m_qb m_la m_lb m_sa m_sb m_ta m_tb : Int64) (m_listed m_tells m_wanted m_found : Int32) (m_bits : Int64) (m_power2 m_rings m_ringA m_ringB m_seedNow : Int32) (m_tape m_has m_keptHas m_first m_second m_keptFirst m_keptSecond m_pa m_pb m_pNorm m_cubed m_isOpen m_signs m_often m_la0 m_lb0 : Nat → Int32) (x : Int32) (hf : f_X11_hasSign v1 m_first m_second = some x) : kx_MI l yX11_hasSign cX11_hasSign 2 (some .boolean) 1 23 D T [.ref (h 0), .int v1] (wM T h m_taped m_states m_ra m_rb m_threes m_primes m_ones m_unit m_allParts m_allNorms m_allClasses m_odd m_boxWide m_boxHigh m_boxStep m_partingMany m_qa m_qb m_la m_lb m_sa m_sb m_ta m_tb m_listed m_tells m_wanted m_found m_bits m_power2 m_rings m_ringA m_ringB m_seedNow m_tape m_has m_keptHas m_first m_second m_keptFirst m_keptSecond m_pa m_pb m_pNorm m_cubed m_isOpen m_signs m_often m_la0 m_lb0) (wM T h m_taped m_states m_ra m_rb m_threes m_primes m_ones m_unit m_allParts m_allNorms m_allClasses m_odd m_boxWide m_boxHigh m_boxStep m_partingMany m_qa m_qb m_la m_lb m_sa m_sb m_ta m_tb m_listed m_tells m_wanted m_found m_bits m_power2 m_rings m_ringA m_ringB m_seedNow m_tape m_has m_keptHas m_first m_second m_keptFirst m_keptSecond m_pa m_pb m_pNorm m_cubed m_isOpen m_signs m_often m_la0 m_lb0) x := by
  refine kx_ofMZ RX11 rfl (plainFor_of_name (x := yX11_hasSign) kpn_X11) rfl ?_
  intro E A H ls _ C X R hl
  have hl : lv_has ls 2 [(0, .ref (h 0)), (1, .int v1)] := hl
  rw [f_X11_hasSign] at hf
  refine x_aload_n 1 C dX11_hasSign_0 hl 0 rfl rfl ?_
  refine x_iload_n 2 C dX11_hasSign_1 hl 1 rfl rfl ?_
  obtain ⟨y2, hy2, hf⟩ := kx_bind hf
  refine x_callVi0 5 C dX11_hasSign_2 X hl kl_X11_178 (c_X11_isNothing E.2.1 D T h v1 m_taped m_states m_ra m_rb m_threes m_primes m_ones m_unit m_allParts m_allNorms m_allClasses m_odd m_boxWide m_boxHigh m_boxStep m_partingMany m_qa m_qb m_la m_lb m_sa m_sb m_ta m_tb m_listed m_tells m_wanted m_found m_bits m_power2 m_rings m_ringA m_ringB m_seedNow m_tape m_has m_keptHas m_first m_second m_keptFirst m_keptSecond m_pa m_pb m_pNorm m_cubed m_isOpen m_signs m_often m_la0 m_lb0 y2 hy2) rfl rfl [] rfl rfl rfl rfl rfl rfl (fun H locs X => ?_)
  refine x_if_ne 54 8 C dX11_hasSign_5 rfl rfl hf (fun hf => ?_) (fun hf => ?_)
  · refine x_iconst 55 C dX11_hasSign_54 (0 : Int32) kv_iconst_0 rfl ?_
    obtain rfl := Option.some.inj hf
    exact R _ _ _ _ X kb_0 dX11_hasSign_55
  refine x_aload_n 9 C dX11_hasSign_8 hl 0 rfl rfl ?_
  refine x_get 12 C dX11_hasSign_9 X kf_X11_20 0 rfl rfl rfl ?_
  refine x_iload_n 13 C dX11_hasSign_12 hl 1 rfl rfl ?_
  refine x_iald 14 C dX11_hasSign_13 X 4 rfl hf rfl (fun hf => ?_)
  refine x_i2l 15 C dX11_hasSign_14 rfl ?_
  refine x_aload_n 16 C dX11_hasSign_15 hl 0 rfl rfl ?_
  refine x_get 19 C dX11_hasSign_16 X kf_X11_24 0 rfl rfl rfl ?_
  refine x_iload_n 20 C dX11_hasSign_19 hl 1 rfl rfl ?_
  refine x_iald 21 C dX11_hasSign_20 X 5 rfl hf rfl (fun hf => ?_)
  refine x_i2l 22 C dX11_hasSign_21 rfl ?_
  obtain ⟨y22, hy22, hf⟩ := kx_bind hf
  refine x_callSl 25 C dX11_hasSign_22 X hl kl_X11_112 (c_X11_norm E.2.1 D T  ((m_first (v1).toNatClampNeg)).toInt64 ((m_second (v1).toNatClampNeg)).toInt64  y22 hy22) [] rfl rfl rfl rfl rfl cb_7 rfl (fun H locs X => ?_)
  refine x_lconst 26 C dX11_hasSign_25 (1 : Int64) kv_lconst_1 rfl ?_
  refine x_lcmp_le 54 27 30 C dX11_hasSign_26 dX11_hasSign_27 rfl rfl rfl hf (fun hf => ?_) (fun hf => ?_)
  · refine x_iconst 55 C dX11_hasSign_54 (0 : Int32) kv_iconst_0 rfl ?_
    obtain rfl := Option.some.inj hf
    exact R _ _ _ _ X kb_0 dX11_hasSign_55
  refine x_aload_n 31 C dX11_hasSign_30 hl 0 rfl rfl ?_
  refine x_get 34 C dX11_hasSign_31 X kf_X11_20 0 rfl rfl rfl ?_
  refine x_iload_n 35 C dX11_hasSign_34 hl 1 rfl rfl ?_
  refine x_iald 36 C dX11_hasSign_35 X 4 rfl hf rfl (fun hf => ?_)
  refine x_i2l 37 C dX11_hasSign_36 rfl ?_
  refine x_aload_n 38 C dX11_hasSign_37 hl 0 rfl rfl ?_
  refine x_get 41 C dX11_hasSign_38 X kf_X11_24 0 rfl rfl rfl ?_
  refine x_iload_n 42 C dX11_hasSign_41 hl 1 rfl rfl ?_
  refine x_iald 43 C dX11_hasSign_42 X 5 rfl hf rfl (fun hf => ?_)
  refine x_i2l 44 C dX11_hasSign_43 rfl ?_
  obtain ⟨y44, hy44, hf⟩ := kx_bind hf
  refine x_callSi 47 C dX11_hasSign_44 X hl kl_X11_142 (c_X11_isThree E.2.1 D T  ((m_first (v1).toNatClampNeg)).toInt64 ((m_second (v1).toNatClampNeg)).toInt64  y44 hy44) [] rfl rfl rfl rfl rfl cb_7 rfl (fun H locs X => ?_)
  refine x_if_ne 54 50 C dX11_hasSign_47 rfl rfl hf (fun hf => ?_) (fun hf => ?_)
  · refine x_iconst 55 C dX11_hasSign_54 (0 : Int32) kv_iconst_0 rfl ?_
    obtain rfl := Option.some.inj hf
    exact R _ _ _ _ X kb_0 dX11_hasSign_55
  refine x_iconst 51 C dX11_hasSign_50 (1 : Int32) kv_iconst_1 rfl ?_
  refine x_goto 55 C dX11_hasSign_51 rfl ?_
  obtain rfl := Option.some.inj hf
  exact R _ _ _ _ X kb_1 dX11_hasSign_55
