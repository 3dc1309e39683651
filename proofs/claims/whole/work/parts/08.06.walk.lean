set_option maxHeartbeats 4000000 in
set_option maxRecDepth 100000 in
theorem w_X11_rootOf_12 {E : KE} {A : Nat → Prop} {D : va_G} {T : KT}  (C : kx_C E cX11_rootOf 7 (some .int) RX11 0 0 D T) (N : Nat) (x : Int32)  (R : kx_RI E cX11_rootOf D A (w4_ T  ) x) : ∀ (k : Nat), ∀  (v0 : Int32) (v1 v3 : Int64) (H : Heap) (locs : List Loc) (ls : Array Slot), kx_H E D A H locs (w4_ T  ) → lv_has ls 7 [(0, .int v0), (1, .long v1), (3, .long v3)] → f_X11_rootOf_12 N k v0 v1 v3 = some x → kx_W E H locs 12 ls [] := by
  intro k
  induction k with
  | zero =>
    intro v0 v1 v3 H locs ls X hl hf
    cases (show (none : Option (Int32)) = some x from hf)
  | succ k ih =>
    intro v0 v1 v3 H locs ls X hl hf
    rw [f_X11_rootOf_12] at hf
    refine x_lload_n 13 C dX11_rootOf_12 hl 1 rfl rfl ?_
    refine x_lload_n 14 C dX11_rootOf_13 hl 2 rfl rfl ?_
    refine x_lcmp_ge 54 15 18 C dX11_rootOf_14 dX11_rootOf_15 rfl rfl rfl hf (fun hf => ?_) (fun hf => ?_)
    · refine x_lload_n 55 C dX11_rootOf_54 hl 1 rfl rfl ?_
      refine x_l2i 56 C dX11_rootOf_55 rfl ?_
      obtain rfl := Option.some.inj hf
      exact R _ _ _ _ X dX11_rootOf_56
    refine x_lload_n 19 C dX11_rootOf_18 hl 1 rfl rfl ?_
    refine x_lload_n 20 C dX11_rootOf_19 hl 2 rfl rfl ?_
    refine x_ladd 21 C dX11_rootOf_20 rfl ?_
    refine x_lconst 22 C dX11_rootOf_21 (1 : Int64) kv_lconst_1 rfl ?_
    refine x_ladd 23 C dX11_rootOf_22 rfl ?_
    refine x_ldc2_w 26 C dX11_rootOf_23 (2 : Int64) kc_X11_119 rfl ?_
    refine x_ldiv0 27 C dX11_rootOf_26 kz_l_2 rfl ?_
    refine x_lstore 29 C dX11_rootOf_27 [(5, .long (((v1 + v3) + (1 : Int64)) / (2 : Int64))), (0, .int v0), (1, .long v1), (3, .long v3)] hl rfl rfl rfl (fun ls hl => ?_)
    refine x_lload 31 C dX11_rootOf_29 hl 0 rfl rfl ?_
    refine x_lload 33 C dX11_rootOf_31 hl 0 rfl rfl ?_
    refine x_lmul 34 C dX11_rootOf_33 rfl ?_
    refine x_iload_n 35 C dX11_rootOf_34 hl 1 rfl rfl ?_
    refine x_i2l 36 C dX11_rootOf_35 rfl ?_
    refine x_lcmp_gt 46 37 40 C dX11_rootOf_36 dX11_rootOf_37 rfl rfl rfl hf (fun hf => ?_) (fun hf => ?_)
    · refine x_lload 48 C dX11_rootOf_46 hl 0 rfl rfl ?_
      refine x_lconst 49 C dX11_rootOf_48 (1 : Int64) kv_lconst_1 rfl ?_
      refine x_lsub 50 C dX11_rootOf_49 rfl ?_
      refine x_lstore_n 51 C dX11_rootOf_50 [(3, .long ((((v1 + v3) + (1 : Int64)) / (2 : Int64)) - (1 : Int64))), (5, .long (((v1 + v3) + (1 : Int64)) / (2 : Int64))), (0, .int v0), (1, .long v1)] hl rfl rfl rfl (fun ls hl => ?_)
      refine x_goto 12 C dX11_rootOf_51 rfl ?_
      exact ih v0 v1 ((((v1 + v3) + (1 : Int64)) / (2 : Int64)) - (1 : Int64)) _ _ _ X (lv_sub hl [2, 3, 0] rfl) hf
    refine x_lload 42 C dX11_rootOf_40 hl 0 rfl rfl ?_
    refine x_lstore_n 43 C dX11_rootOf_42 [(1, .long (((v1 + v3) + (1 : Int64)) / (2 : Int64))), (5, .long (((v1 + v3) + (1 : Int64)) / (2 : Int64))), (0, .int v0), (3, .long v3)] hl rfl rfl rfl (fun ls hl => ?_)
    refine x_goto 51 C dX11_rootOf_43 rfl ?_
    refine x_goto 12 C dX11_rootOf_51 rfl ?_
    exact ih v0 (((v1 + v3) + (1 : Int64)) / (2 : Int64)) v3 _ _ _ X (lv_sub hl [2, 0, 3] rfl) hf
set_option maxHeartbeats 4000000 in
set_option maxRecDepth 100000 in
theorem c_X11_rootOf (l : Launch) (D : va_G) (T : KT)  (N : Nat) (v0 : Int32)  (x : Int32) (hf : f_X11_rootOf N v0 = some x) : kx_MI l yX11_rootOf cX11_rootOf 7 (some .int) 0 0 D T [.int v0] (w4_ T  ) (w4_ T  ) x := by
  refine kx_ofMI RX11 rfl (plainFor_of_name (x := yX11_rootOf) kpn_X11) rfl ?_
  intro E A H ls _ C X R hl
  have hl : lv_has ls 7 [(0, .int v0)] := hl
  rw [f_X11_rootOf] at hf
  refine x_iload_n 1 C dX11_rootOf_0 hl 0 rfl rfl ?_
  refine x_if_ge 6 4 C dX11_rootOf_1 rfl rfl hf (fun hf => ?_) (fun hf => ?_)
  · refine x_lconst 7 C dX11_rootOf_6 (0 : Int64) kv_lconst_0 rfl ?_
    refine x_lstore_n 8 C dX11_rootOf_7 [(1, .long (0 : Int64)), (0, .int v0)] hl rfl rfl rfl (fun ls hl => ?_)
    refine x_ldc2_w 11 C dX11_rootOf_8 (46341 : Int64) kc_X11_220 rfl ?_
    refine x_lstore_n 12 C dX11_rootOf_11 [(3, .long (46341 : Int64)), (1, .long (0 : Int64)), (0, .int v0)] hl rfl rfl rfl (fun ls hl => ?_)
    exact w_X11_rootOf_12  C N x  R  N v0 (0 : Int64) (46341 : Int64) _ _ _ X (lv_sub hl [2, 1, 0] rfl) hf
  refine x_iconst 5 C dX11_rootOf_4 (-1 : Int32) kv_iconst_m1 rfl ?_
  obtain rfl := Option.some.inj hf
  exact R _ _ _ _ X dX11_rootOf_5
set_option maxHeartbeats 4000000 in
set_option maxRecDepth 100000 in
theorem w_X11_splits_15 {E : KE} {A : Nat → Prop} {D : va_G} {T : KT} (h : Nat → Nat) (C : kx_C E cX11_splits 5 none RX11 2 48 D T) (N : Nat) (x : Int64 × Int64) (m_taped m_states m_threes m_primes m_ones m_unit : Int32) (m_allParts m_allNorms m_allClasses : Int64) (m_odd : Int32) (m_boxWide m_boxHigh m_boxStep : Int64) (m_partingMany : Int32) (m_qa m_qb m_la m_lb m_sa m_sb m_ta m_tb : Int64) (m_listed m_tells m_wanted m_found : Int32) (m_bits : Int64) (m_power2 m_rings m_ringA m_ringB m_seedNow : Int32) (m_tape m_has m_keptHas m_first m_second m_keptFirst m_keptSecond m_pa m_pb m_pNorm m_cubed m_isOpen m_signs m_often m_la0 m_lb0 : Nat → Int32) (R : kx_RV E cX11_splits D A (wM T h m_taped m_states x.1 x.2 m_threes m_primes m_ones m_unit m_allParts m_allNorms m_allClasses m_odd m_boxWide m_boxHigh m_boxStep m_partingMany m_qa m_qb m_la m_lb m_sa m_sb m_ta m_tb m_listed m_tells m_wanted m_found m_bits m_power2 m_rings m_ringA m_ringB m_seedNow m_tape m_has m_keptHas m_first m_second m_keptFirst m_keptSecond m_pa m_pb m_pNorm m_cubed m_isOpen m_signs m_often m_la0 m_lb0)) : ∀ (k : Nat), ∀ (m_ra m_rb : Int64) (v1 v2 v3 : Int32) (H : Heap) (locs : List Loc) (ls : Array Slot), kx_H E D A H locs (wM T h m_taped m_states m_ra m_rb m_threes m_primes m_ones m_unit m_allParts m_allNorms m_allClasses m_odd m_boxWide m_boxHigh m_boxStep m_partingMany m_qa m_qb m_la m_lb m_sa m_sb m_ta m_tb m_listed m_tells m_wanted m_found m_bits m_power2 m_rings m_ringA m_ringB m_seedNow m_tape m_has m_keptHas m_first m_second m_keptFirst m_keptSecond m_pa m_pb m_pNorm m_cubed m_isOpen m_signs m_often m_la0 m_lb0) → lv_has ls 5 [(0, .ref (h 0)), (1, .int v1), (2, .int v2), (3, .int v3)] → f_X11_splits_15 N k v1 v2 v3 = some x → kx_W E H locs 15 ls [] := by
  intro k
  induction k with
  | zero =>
    intro m_ra m_rb v1 v2 v3 H locs ls X hl hf
    cases (show (none : Option (Int64 × Int64)) = some x from hf)
  | succ k ih =>
    intro m_ra m_rb v1 v2 v3 H locs ls X hl hf
    rw [f_X11_splits_15] at hf
    refine x_iload_n 16 C dX11_splits_15 hl 3 rfl rfl ?_
    refine x_iload_n 17 C dX11_splits_16 hl 3 rfl rfl ?_
    refine x_imul 18 C dX11_splits_17 rfl ?_
    refine x_iconst 19 C dX11_splits_18 (4 : Int32) kv_iconst_4 rfl ?_
    refine x_iload_n 20 C dX11_splits_19 hl 1 rfl rfl ?_
    refine x_imul 21 C dX11_splits_20 rfl ?_
    refine x_iconst 22 C dX11_splits_21 (3 : Int32) kv_iconst_3 rfl ?_
    refine x_iload_n 23 C dX11_splits_22 hl 2 rfl rfl ?_
    refine x_imul 24 C dX11_splits_23 rfl ?_
    refine x_iload_n 25 C dX11_splits_24 hl 2 rfl rfl ?_
    refine x_imul 26 C dX11_splits_25 rfl ?_
    refine x_isub 27 C dX11_splits_26 rfl ?_
    refine x_icmp_eq 50 30 C dX11_splits_27 rfl rfl hf (fun hf => ?_) (fun hf => ?_)
    · refine x_iload_n 51 C dX11_splits_50 hl 2 rfl rfl ?_
      refine x_iload_n 52 C dX11_splits_51 hl 3 rfl rfl ?_
      refine x_iadd 53 C dX11_splits_52 rfl ?_
      refine x_iconst 54 C dX11_splits_53 (2 : Int32) kv_iconst_2 rfl ?_
      refine x_idiv0 55 C dX11_splits_54 kz_i_2 rfl ?_
      refine x_istore 57 C dX11_splits_55 [(4, .int ((v2 + v3) / (2 : Int32))), (0, .ref (h 0)), (1, .int v1), (2, .int v2), (3, .int v3)] hl rfl rfl rfl (fun ls hl => ?_)
      refine x_aload_n 58 C dX11_splits_57 hl 1 rfl rfl ?_
      refine x_iload 60 C dX11_splits_58 hl 0 rfl rfl ?_
      refine x_i2l 61 C dX11_splits_60 rfl ?_
      refine x_ldc2_w 64 C dX11_splits_61 (3 : Int64) kc_X11_134 rfl ?_
      obtain ⟨y64, hy64, hf⟩ := kx_bind hf
      refine x_callSl 67 C dX11_splits_64 X hl kl_X11_136 (c_X11_rest E.2.1 D T  (((v2 + v3) / (2 : Int32))).toInt64 (3 : Int64)  y64 hy64) [.ref (h 0)] rfl rfl rfl rfl rfl cb_7 rfl (fun H locs X => ?_)
      refine x_ldc2_w 70 C dX11_splits_67 (2 : Int64) kc_X11_119 rfl ?_
      refine x_lcmp_ne 80 71 74 C dX11_splits_70 dX11_splits_71 rfl rfl rfl hf (fun hf => ?_) (fun hf => ?_)
      · refine x_iload_n 81 C dX11_splits_80 hl 3 rfl rfl ?_
        refine x_iload 83 C dX11_splits_81 hl 0 rfl rfl ?_
        refine x_isub 84 C dX11_splits_83 rfl ?_
        refine x_i2l 85 C dX11_splits_84 rfl ?_
        refine x_iload_n 86 C dX11_splits_85 hl 3 rfl rfl ?_
        refine x_i2l 87 C dX11_splits_86 rfl ?_
        obtain ⟨y87, hy87, hf⟩ := kx_bind hf
        refine x_callVv0 90 C dX11_splits_87 X hl kl_X11_115 (c_X11_sets E.2.1 D T h ((v2 - ((v2 + v3) / (2 : Int32)))).toInt64 (v2).toInt64 m_taped m_states m_ra m_rb m_threes m_primes m_ones m_unit m_allParts m_allNorms m_allClasses m_odd m_boxWide m_boxHigh m_boxStep m_partingMany m_qa m_qb m_la m_lb m_sa m_sb m_ta m_tb m_listed m_tells m_wanted m_found m_bits m_power2 m_rings m_ringA m_ringB m_seedNow m_tape m_has m_keptHas m_first m_second m_keptFirst m_keptSecond m_pa m_pb m_pNorm m_cubed m_isOpen m_signs m_often m_la0 m_lb0 y87 hy87) rfl rfl [] rfl rfl rfl rfl rfl rfl (fun H locs X => ?_)
        obtain rfl := Option.some.inj hf
        exact R _ _ _ _ X dX11_splits_90
      refine x_iload 76 C dX11_splits_74 hl 0 rfl rfl ?_
      refine x_i2l 77 C dX11_splits_76 rfl ?_
      refine x_goto 85 C dX11_splits_77 rfl ?_
      refine x_iload_n 86 C dX11_splits_85 hl 3 rfl rfl ?_
      refine x_i2l 87 C dX11_splits_86 rfl ?_
      obtain ⟨y87, hy87, hf⟩ := kx_bind hf
      refine x_callVv0 90 C dX11_splits_87 X hl kl_X11_115 (c_X11_sets E.2.1 D T h (((v2 + v3) / (2 : Int32))).toInt64 (v2).toInt64 m_taped m_states m_ra m_rb m_threes m_primes m_ones m_unit m_allParts m_allNorms m_allClasses m_odd m_boxWide m_boxHigh m_boxStep m_partingMany m_qa m_qb m_la m_lb m_sa m_sb m_ta m_tb m_listed m_tells m_wanted m_found m_bits m_power2 m_rings m_ringA m_ringB m_seedNow m_tape m_has m_keptHas m_first m_second m_keptFirst m_keptSecond m_pa m_pb m_pNorm m_cubed m_isOpen m_signs m_often m_la0 m_lb0 y87 hy87) rfl rfl [] rfl rfl rfl rfl rfl rfl (fun H locs X => ?_)
      obtain rfl := Option.some.inj hf
      exact R _ _ _ _ X dX11_splits_90
    refine x_iload_n 31 C dX11_splits_30 hl 2 rfl rfl ?_
    refine x_iconst 32 C dX11_splits_31 (3 : Int32) kv_iconst_3 rfl ?_
    refine x_iadd 33 C dX11_splits_32 rfl ?_
    refine x_istore_n 34 C dX11_splits_33 [(2, .int (v2 + (3 : Int32))), (0, .ref (h 0)), (1, .int v1), (3, .int v3)] hl rfl rfl rfl (fun ls hl => ?_)
    refine x_iconst 35 C dX11_splits_34 (4 : Int32) kv_iconst_4 rfl ?_
    refine x_iload_n 36 C dX11_splits_35 hl 2 rfl rfl ?_
    refine x_imul 37 C dX11_splits_36 rfl ?_
    refine x_iconst 38 C dX11_splits_37 (3 : Int32) kv_iconst_3 rfl ?_
    refine x_iload_n 39 C dX11_splits_38 hl 0 rfl rfl ?_
    refine x_imul 40 C dX11_splits_39 rfl ?_
    refine x_iload_n 41 C dX11_splits_40 hl 0 rfl rfl ?_
    refine x_imul 42 C dX11_splits_41 rfl ?_
    refine x_isub 43 C dX11_splits_42 rfl ?_
    obtain ⟨y43, hy43, hf⟩ := kx_bind hf
    refine x_callSi 46 C dX11_splits_43 X hl kl_X11_217 (c_X11_rootOf E.2.1 D T  N (((4 : Int32) * v1) - (((3 : Int32) * (v2 + (3 : Int32))) * (v2 + (3 : Int32))))  y43 hy43) [] rfl rfl rfl rfl rfl cb_7 rfl (fun H locs X => ?_)
    refine x_istore_n 47 C dX11_splits_46 [(3, .int y43), (2, .int (v2 + (3 : Int32))), (0, .ref (h 0)), (1, .int v1)] hl rfl rfl rfl (fun ls hl => ?_)
    refine x_goto 15 C dX11_splits_47 rfl ?_
    exact ih m_ra m_rb v1 (v2 + (3 : Int32)) y43 _ _ _ X (lv_sub hl [2, 3, 1, 0] rfl) hf
set_option maxHeartbeats 4000000 in
set_option maxRecDepth 100000 in
theorem c_X11_splits (l : Launch) (D : va_G) (T : KT) (h : Nat → Nat) (N : Nat) (v1 : Int32) (m_taped m_states : Int32) (m_ra m_rb : Int64) (m_threes m_primes m_ones m_unit : Int32) (m_allParts m_allNorms m_allClasses : Int64) (m_odd : Int32) (m_boxWide m_boxHigh m_boxStep : Int64) (m_partingMany : Int32) (m_qa m_qb m_la m_lb m_sa m_sb m_ta m_tb : Int64) (m_listed m_tells m_wanted m_found : Int32) (m_bits : Int64) (m_power2 m_rings m_ringA m_ringB m_seedNow : Int32) (m_tape m_has m_keptHas m_first m_second m_keptFirst m_keptSecond m_pa m_pb m_pNorm m_cubed m_isOpen m_signs m_often m_la0 m_lb0 : Nat → Int32) (x : Int64 × Int64) (hf : f_X11_splits N v1 = some x) : kx_MV l yX11_splits cX11_splits 5 none 2 48 D T [.ref (h 0), .int v1] (wM T h m_taped m_states m_ra m_rb m_threes m_primes m_ones m_unit m_allParts m_allNorms m_allClasses m_odd m_boxWide m_boxHigh m_boxStep m_partingMany m_qa m_qb m_la m_lb m_sa m_sb m_ta m_tb m_listed m_tells m_wanted m_found m_bits m_power2 m_rings m_ringA m_ringB m_seedNow m_tape m_has m_keptHas m_first m_second m_keptFirst m_keptSecond m_pa m_pb m_pNorm m_cubed m_isOpen m_signs m_often m_la0 m_lb0) (wM T h m_taped m_states x.1 x.2 m_threes m_primes m_ones m_unit m_allParts m_allNorms m_allClasses m_odd m_boxWide m_boxHigh m_boxStep m_partingMany m_qa m_qb m_la m_lb m_sa m_sb m_ta m_tb m_listed m_tells m_wanted m_found m_bits m_power2 m_rings m_ringA m_ringB m_seedNow m_tape m_has m_keptHas m_first m_second m_keptFirst m_keptSecond m_pa m_pb m_pNorm m_cubed m_isOpen m_signs m_often m_la0 m_lb0) := by
  refine kx_ofMV RX11 rfl (plainFor_of_name (x := yX11_splits) kpn_X11) rfl ?_
  intro E A H ls _ C X R hl
  have hl : lv_has ls 5 [(0, .ref (h 0)), (1, .int v1)] := hl
  rw [f_X11_splits] at hf
  refine x_iconst 1 C dX11_splits_0 (3 : Int32) kv_iconst_3 rfl ?_
  refine x_istore_n 2 C dX11_splits_1 [(2, .int (3 : Int32)), (0, .ref (h 0)), (1, .int v1)] hl rfl rfl rfl (fun ls hl => ?_)
  refine x_iconst 3 C dX11_splits_2 (4 : Int32) kv_iconst_4 rfl ?_
  refine x_iload_n 4 C dX11_splits_3 hl 2 rfl rfl ?_
  refine x_imul 5 C dX11_splits_4 rfl ?_
  refine x_iconst 6 C dX11_splits_5 (3 : Int32) kv_iconst_3 rfl ?_
  refine x_iload_n 7 C dX11_splits_6 hl 0 rfl rfl ?_
  refine x_imul 8 C dX11_splits_7 rfl ?_
  refine x_iload_n 9 C dX11_splits_8 hl 0 rfl rfl ?_
  refine x_imul 10 C dX11_splits_9 rfl ?_
  refine x_isub 11 C dX11_splits_10 rfl ?_
  obtain ⟨y11, hy11, hf⟩ := kx_bind hf
  refine x_callSi 14 C dX11_splits_11 X hl kl_X11_217 (c_X11_rootOf E.2.1 D T  N (((4 : Int32) * v1) - (((3 : Int32) * (3 : Int32)) * (3 : Int32)))  y11 hy11) [] rfl rfl rfl rfl rfl cb_7 rfl (fun H locs X => ?_)
  refine x_istore_n 15 C dX11_splits_14 [(3, .int y11), (2, .int (3 : Int32)), (0, .ref (h 0)), (1, .int v1)] hl rfl rfl rfl (fun ls hl => ?_)
  exact w_X11_splits_15 h C N x m_taped m_states m_threes m_primes m_ones m_unit m_allParts m_allNorms m_allClasses m_odd m_boxWide m_boxHigh m_boxStep m_partingMany m_qa m_qb m_la m_lb m_sa m_sb m_ta m_tb m_listed m_tells m_wanted m_found m_bits m_power2 m_rings m_ringA m_ringB m_seedNow m_tape m_has m_keptHas m_first m_second m_keptFirst m_keptSecond m_pa m_pb m_pNorm m_cubed m_isOpen m_signs m_often m_la0 m_lb0 R  N m_ra m_rb v1 (3 : Int32) y11 _ _ _ X (lv_sub hl [2, 3, 1, 0] rfl) hf
set_option maxHeartbeats 4000000 in
set_option maxRecDepth 100000 in
theorem w_X11_writes_137 {E : KE} {A : Nat → Prop} {D : va_G} {T : KT} (h : Nat → Nat) (C : kx_C E cX11_writes 13 none RX11 5 146 D T) (N : Nat) (x : Int64 × Int64 × Int32 × Int32 × Int32 × Int32 × (Nat → Int32) × (Nat → Int32) × (Nat → Int32)) (m_taped m_states : Int32) (m_allParts m_allNorms m_allClasses : Int64) (m_odd : Int32) (m_boxWide m_boxHigh m_boxStep : Int64) (m_partingMany : Int32) (m_qa m_qb m_la m_lb m_sa m_sb m_ta m_tb : Int64) (m_listed m_tells m_wanted m_found : Int32) (m_bits : Int64) (m_power2 m_rings m_ringA m_ringB m_seedNow : Int32) (m_tape m_has m_keptHas m_first m_second m_keptFirst m_keptSecond m_cubed m_isOpen m_signs m_often m_la0 m_lb0 : Nat → Int32) (R : kx_RV E cX11_writes D A (wM T h m_taped m_states x.1 x.2.1 x.2.2.1 x.2.2.2.1 x.2.2.2.2.1 x.2.2.2.2.2.1 m_allParts m_allNorms m_allClasses m_odd m_boxWide m_boxHigh m_boxStep m_partingMany m_qa m_qb m_la m_lb m_sa m_sb m_ta m_tb m_listed m_tells m_wanted m_found m_bits m_power2 m_rings m_ringA m_ringB m_seedNow m_tape m_has m_keptHas m_first m_second m_keptFirst m_keptSecond x.2.2.2.2.2.2.1 x.2.2.2.2.2.2.2.1 x.2.2.2.2.2.2.2.2 m_cubed m_isOpen m_signs m_often m_la0 m_lb0)) (k40 : Int64 → Int64 → Int64 → Int64 → Int32 → Int32 → Int32 → Int32 → (Nat → Int32) → (Nat → Int32) → (Nat → Int32) → Option (Int64 × Int64 × Int32 × Int32 × Int32 × Int32 × (Nat → Int32) × (Nat → Int32) × (Nat → Int32))) (hk40 : ∀ (m_ra m_rb : Int64) (m_threes m_primes m_ones m_unit : Int32) (m_pa m_pb m_pNorm : Nat → Int32) (v1 v3 v5 v7 : Int64) (v9 : Int32) (H : Heap) (locs : List Loc) (ls : Array Slot), kx_H E D A H locs (wM T h m_taped m_states m_ra m_rb m_threes m_primes m_ones m_unit m_allParts m_allNorms m_allClasses m_odd m_boxWide m_boxHigh m_boxStep m_partingMany m_qa m_qb m_la m_lb m_sa m_sb m_ta m_tb m_listed m_tells m_wanted m_found m_bits m_power2 m_rings m_ringA m_ringB m_seedNow m_tape m_has m_keptHas m_first m_second m_keptFirst m_keptSecond m_pa m_pb m_pNorm m_cubed m_isOpen m_signs m_often m_la0 m_lb0) → lv_has ls 13 [(0, .ref (h 0)), (1, .long v1), (3, .long v3), (5, .long v5), (7, .long v7), (9, .int v9)] → k40 v1 v3 v5 v7 v9 m_threes m_primes m_ones m_pa m_pb m_pNorm = some x → kx_W E H locs 40 ls []) : ∀ (m_ra m_rb : Int64) (m_threes m_primes m_ones m_unit : Int32) (m_pa m_pb m_pNorm : Nat → Int32) (v1 v3 v5 v7 : Int64) (v9 v10 : Int32) (H : Heap) (locs : List Loc) (ls : Array Slot), kx_H E D A H locs (wM T h m_taped m_states m_ra m_rb m_threes m_primes m_ones m_unit m_allParts m_allNorms m_allClasses m_odd m_boxWide m_boxHigh m_boxStep m_partingMany m_qa m_qb m_la m_lb m_sa m_sb m_ta m_tb m_listed m_tells m_wanted m_found m_bits m_power2 m_rings m_ringA m_ringB m_seedNow m_tape m_has m_keptHas m_first m_second m_keptFirst m_keptSecond m_pa m_pb m_pNorm m_cubed m_isOpen m_signs m_often m_la0 m_lb0) → lv_has ls 13 [(0, .ref (h 0)), (1, .long v1), (3, .long v3), (5, .long v5), (7, .long v7), (9, .int v9), (10, .int v10)] → f_X11_writes_137 N k40 v1 v3 v5 v7 v9 v10 m_ra m_rb m_primes m_ones m_pa m_pb m_pNorm = some x → kx_W E H locs 137 ls [] := by
  intro m_ra m_rb m_threes m_primes m_ones m_unit m_pa m_pb m_pNorm v1 v3 v5 v7 v9 v10 H locs ls X hl hf
  rw [f_X11_writes_137] at hf
  refine x_aload_n 138 C dX11_writes_137 hl 0 rfl rfl ?_
  refine x_aload_n 139 C dX11_writes_138 hl 0 rfl rfl ?_
  refine x_get 142 C dX11_writes_139 X kf_X11_105 0 rfl rfl rfl ?_
  refine x_aload_n 143 C dX11_writes_142 hl 0 rfl rfl ?_
  refine x_get 146 C dX11_writes_143 X kf_X11_109 0 rfl rfl rfl ?_
  obtain ⟨y146, hy146, hf⟩ := kx_bind hf
  refine x_callVv0 149 C dX11_writes_146 X hl kl_X11_148 (c_X11_takesThrees E.2.1 D T h N m_ra m_rb m_taped m_states m_ra m_rb m_threes m_primes m_ones m_unit m_allParts m_allNorms m_allClasses m_odd m_boxWide m_boxHigh m_boxStep m_partingMany m_qa m_qb m_la m_lb m_sa m_sb m_ta m_tb m_listed m_tells m_wanted m_found m_bits m_power2 m_rings m_ringA m_ringB m_seedNow m_tape m_has m_keptHas m_first m_second m_keptFirst m_keptSecond m_pa m_pb m_pNorm m_cubed m_isOpen m_signs m_often m_la0 m_lb0 y146 hy146) rfl rfl [] rfl rfl rfl rfl rfl rfl (fun H locs X => ?_)
  refine x_aload_n 150 C dX11_writes_149 hl 0 rfl rfl ?_
  refine x_get 153 C dX11_writes_150 X kf_X11_105 0 rfl rfl rfl ?_
  refine x_l2i 154 C dX11_writes_153 rfl ?_
  refine x_istore 156 C dX11_writes_154 [(11, .int (y146.1).toInt32), (0, .ref (h 0)), (1, .long v1), (3, .long v3), (5, .long v5), (7, .long v7), (9, .int v9), (10, .int v10)] hl rfl rfl rfl (fun ls hl => ?_)
  refine x_aload_n 157 C dX11_writes_156 hl 1 rfl rfl ?_
  refine x_get 160 C dX11_writes_157 X kf_X11_109 0 rfl rfl rfl ?_
  refine x_l2i 161 C dX11_writes_160 rfl ?_
  refine x_istore 163 C dX11_writes_161 [(12, .int (y146.2.1).toInt32), (11, .int (y146.1).toInt32), (0, .ref (h 0)), (1, .long v1), (3, .long v3), (5, .long v5), (7, .long v7), (9, .int v9), (10, .int v10)] hl rfl rfl rfl (fun ls hl => ?_)
  refine x_aload_n 164 C dX11_writes_163 hl 2 rfl rfl ?_
  refine x_iload 166 C dX11_writes_164 hl 1 rfl rfl ?_
  refine x_iload 168 C dX11_writes_166 hl 0 rfl rfl ?_
  obtain ⟨y168, hy168, hf⟩ := kx_bind hf
  refine x_callVv0 171 C dX11_writes_168 X hl kl_X11_207 (c_X11_notes E.2.1 D T h N (y146.1).toInt32 (y146.2.1).toInt32 m_taped m_states y146.1 y146.2.1 y146.2.2 m_primes m_ones m_unit m_allParts m_allNorms m_allClasses m_odd m_boxWide m_boxHigh m_boxStep m_partingMany m_qa m_qb m_la m_lb m_sa m_sb m_ta m_tb m_listed m_tells m_wanted m_found m_bits m_power2 m_rings m_ringA m_ringB m_seedNow m_tape m_has m_keptHas m_first m_second m_keptFirst m_keptSecond m_pa m_pb m_pNorm m_cubed m_isOpen m_signs m_often m_la0 m_lb0 y168 hy168) rfl rfl [] rfl rfl rfl rfl rfl rfl (fun H locs X => ?_)
  refine x_aload_n 172 C dX11_writes_171 hl 2 rfl rfl ?_
  refine x_lload 174 C dX11_writes_172 hl 5 rfl rfl ?_
  refine x_lload 176 C dX11_writes_174 hl 6 rfl rfl ?_
  refine x_iload 178 C dX11_writes_176 hl 1 rfl rfl ?_
  refine x_i2l 179 C dX11_writes_178 rfl ?_
  refine x_iload 181 C dX11_writes_179 hl 0 rfl rfl ?_
  refine x_i2l 182 C dX11_writes_181 rfl ?_
  obtain ⟨y182, hy182, hf⟩ := kx_bind hf
  refine x_callVv0 185 C dX11_writes_182 X hl kl_X11_128 (c_X11_parts E.2.1 D T h v5 v7 ((y146.1).toInt32).toInt64 ((y146.2.1).toInt32).toInt64 m_taped m_states y146.1 y146.2.1 y146.2.2 y168.1 m_ones m_unit m_allParts m_allNorms m_allClasses m_odd m_boxWide m_boxHigh m_boxStep m_partingMany m_qa m_qb m_la m_lb m_sa m_sb m_ta m_tb m_listed m_tells m_wanted m_found m_bits m_power2 m_rings m_ringA m_ringB m_seedNow m_tape m_has m_keptHas m_first m_second m_keptFirst m_keptSecond y168.2.1 y168.2.2.1 y168.2.2.2 m_cubed m_isOpen m_signs m_often m_la0 m_lb0 y182 hy182) rfl rfl [] rfl rfl rfl rfl rfl rfl (fun H locs X => ?_)
  refine x_aload_n 186 C dX11_writes_185 hl 2 rfl rfl ?_
  refine x_get 189 C dX11_writes_186 X kf_X11_105 0 rfl rfl rfl ?_
  refine x_lstore 191 C dX11_writes_189 [(5, .long y182.1), (12, .int (y146.2.1).toInt32), (11, .int (y146.1).toInt32), (0, .ref (h 0)), (1, .long v1), (3, .long v3), (7, .long v7), (9, .int v9), (10, .int v10)] hl rfl rfl rfl (fun ls hl => ?_)
  refine x_aload_n 192 C dX11_writes_191 hl 3 rfl rfl ?_
  refine x_get 195 C dX11_writes_192 X kf_X11_109 0 rfl rfl rfl ?_
  refine x_lstore 197 C dX11_writes_195 [(7, .long y182.2), (5, .long y182.1), (12, .int (y146.2.1).toInt32), (11, .int (y146.1).toInt32), (0, .ref (h 0)), (1, .long v1), (3, .long v3), (9, .int v9), (10, .int v10)] hl rfl rfl rfl (fun ls hl => ?_)
  refine x_iload 199 C dX11_writes_197 hl 7 rfl rfl ?_
  refine x_iload 201 C dX11_writes_199 hl 8 rfl rfl ?_
  refine x_idiv 202 C dX11_writes_201 hf rfl (fun hf => ?_)
  refine x_istore 204 C dX11_writes_202 [(9, .int (v9 / v10)), (7, .long y182.2), (5, .long y182.1), (12, .int (y146.2.1).toInt32), (11, .int (y146.1).toInt32), (0, .ref (h 0)), (1, .long v1), (3, .long v3), (10, .int v10)] hl rfl rfl rfl (fun ls hl => ?_)
  refine x_goto 40 C dX11_writes_204 rfl ?_
  exact hk40 y182.1 y182.2 y146.2.2 y168.1 m_ones m_unit y168.2.1 y168.2.2.1 y168.2.2.2 v1 v3 y182.1 y182.2 (v9 / v10) _ _ _ X (lv_sub hl [5, 6, 7, 2, 1, 0] rfl) hf
set_option maxHeartbeats 4000000 in
set_option maxRecDepth 100000 in
theorem w_X11_writes_337 {E : KE} {A : Nat → Prop} {D : va_G} {T : KT} (h : Nat → Nat) (C : kx_C E cX11_writes 13 none RX11 5 146 D T) (N : Nat) (x : Int64 × Int64 × Int32 × Int32 × Int32 × Int32 × (Nat → Int32) × (Nat → Int32) × (Nat → Int32)) (m_taped m_states : Int32) (m_allParts m_allNorms m_allClasses : Int64) (m_odd : Int32) (m_boxWide m_boxHigh m_boxStep : Int64) (m_partingMany : Int32) (m_qa m_qb m_la m_lb m_sa m_sb m_ta m_tb : Int64) (m_listed m_tells m_wanted m_found : Int32) (m_bits : Int64) (m_power2 m_rings m_ringA m_ringB m_seedNow : Int32) (m_tape m_has m_keptHas m_first m_second m_keptFirst m_keptSecond m_cubed m_isOpen m_signs m_often m_la0 m_lb0 : Nat → Int32) (R : kx_RV E cX11_writes D A (wM T h m_taped m_states x.1 x.2.1 x.2.2.1 x.2.2.2.1 x.2.2.2.2.1 x.2.2.2.2.2.1 m_allParts m_allNorms m_allClasses m_odd m_boxWide m_boxHigh m_boxStep m_partingMany m_qa m_qb m_la m_lb m_sa m_sb m_ta m_tb m_listed m_tells m_wanted m_found m_bits m_power2 m_rings m_ringA m_ringB m_seedNow m_tape m_has m_keptHas m_first m_second m_keptFirst m_keptSecond x.2.2.2.2.2.2.1 x.2.2.2.2.2.2.2.1 x.2.2.2.2.2.2.2.2 m_cubed m_isOpen m_signs m_often m_la0 m_lb0)) (k319 : Int64 → Int64 → Int64 → Int64 → Int64 → Int64 → Int32 → Int32 → Int32 → Int32 → (Nat → Int32) → (Nat → Int32) → (Nat → Int32) → Option (Int64 × Int64 × Int32 × Int32 × Int32 × Int32 × (Nat → Int32) × (Nat → Int32) × (Nat → Int32))) (hk319 : ∀ (m_ra m_rb : Int64) (m_threes m_primes m_ones m_unit : Int32) (m_pa m_pb m_pNorm : Nat → Int32) (v1 v3 v5 v7 : Int64) (H : Heap) (locs : List Loc) (ls : Array Slot), kx_H E D A H locs (wM T h m_taped m_states m_ra m_rb m_threes m_primes m_ones m_unit m_allParts m_allNorms m_allClasses m_odd m_boxWide m_boxHigh m_boxStep m_partingMany m_qa m_qb m_la m_lb m_sa m_sb m_ta m_tb m_listed m_tells m_wanted m_found m_bits m_power2 m_rings m_ringA m_ringB m_seedNow m_tape m_has m_keptHas m_first m_second m_keptFirst m_keptSecond m_pa m_pb m_pNorm m_cubed m_isOpen m_signs m_often m_la0 m_lb0) → lv_has ls 13 [(0, .ref (h 0)), (1, .long v1), (3, .long v3), (5, .long v5), (7, .long v7)] → k319 v1 v3 v5 v7 m_ra m_rb m_threes m_primes m_ones m_unit m_pa m_pb m_pNorm = some x → kx_W E H locs 319 ls []) : ∀ (m_ra m_rb : Int64) (m_threes m_primes m_ones m_unit : Int32) (m_pa m_pb m_pNorm : Nat → Int32) (v1 v3 v5 v7 : Int64) (H : Heap) (locs : List Loc) (ls : Array Slot), kx_H E D A H locs (wM T h m_taped m_states m_ra m_rb m_threes m_primes m_ones m_unit m_allParts m_allNorms m_allClasses m_odd m_boxWide m_boxHigh m_boxStep m_partingMany m_qa m_qb m_la m_lb m_sa m_sb m_ta m_tb m_listed m_tells m_wanted m_found m_bits m_power2 m_rings m_ringA m_ringB m_seedNow m_tape m_has m_keptHas m_first m_second m_keptFirst m_keptSecond m_pa m_pb m_pNorm m_cubed m_isOpen m_signs m_often m_la0 m_lb0) → lv_has ls 13 [(0, .ref (h 0)), (1, .long v1), (3, .long v3), (5, .long v5), (7, .long v7)] → f_X11_writes_337 N k319 v1 v3 v5 v7 m_threes m_primes m_ones m_unit m_pa m_pb m_pNorm = some x → kx_W E H locs 337 ls [] := by
  intro m_ra m_rb m_threes m_primes m_ones m_unit m_pa m_pb m_pNorm v1 v3 v5 v7 H locs ls X hl hf
  rw [f_X11_writes_337] at hf
  refine x_aload_n 338 C dX11_writes_337 hl 0 rfl rfl ?_
  refine x_aload_n 339 C dX11_writes_338 hl 0 rfl rfl ?_
  refine x_get 342 C dX11_writes_339 X kf_X11_214 0 rfl rfl rfl ?_
  refine x_iconst 343 C dX11_writes_342 (1 : Int32) kv_iconst_1 rfl ?_
  refine x_iadd 344 C dX11_writes_343 rfl ?_
  refine x_put 347 C dX11_writes_344 X kp_X11_214 0 rfl rfl rfl rfl (wM T h m_taped m_states m_ra m_rb m_threes m_primes m_ones (m_unit + (1 : Int32)) m_allParts m_allNorms m_allClasses m_odd m_boxWide m_boxHigh m_boxStep m_partingMany m_qa m_qb m_la m_lb m_sa m_sb m_ta m_tb m_listed m_tells m_wanted m_found m_bits m_power2 m_rings m_ringA m_ringB m_seedNow m_tape m_has m_keptHas m_first m_second m_keptFirst m_keptSecond m_pa m_pb m_pNorm m_cubed m_isOpen m_signs m_often m_la0 m_lb0) rfl rfl (fun H locs X => ?_)
  refine x_aload_n 348 C dX11_writes_347 hl 0 rfl rfl ?_
  refine x_lload 350 C dX11_writes_348 hl 3 rfl rfl ?_
  refine x_lload 352 C dX11_writes_350 hl 4 rfl rfl ?_
  refine x_aload_n 353 C dX11_writes_352 hl 0 rfl rfl ?_
  refine x_get 356 C dX11_writes_353 X kf_X11_214 0 rfl rfl rfl ?_
  obtain ⟨y356, hy356, hf⟩ := kx_bind hf
  refine x_callVv0 359 C dX11_writes_356 X hl kl_X11_187 (c_X11_unitTimes E.2.1 D T h N v5 v7 (m_unit + (1 : Int32)) m_taped m_states m_ra m_rb m_threes m_primes m_ones (m_unit + (1 : Int32)) m_allParts m_allNorms m_allClasses m_odd m_boxWide m_boxHigh m_boxStep m_partingMany m_qa m_qb m_la m_lb m_sa m_sb m_ta m_tb m_listed m_tells m_wanted m_found m_bits m_power2 m_rings m_ringA m_ringB m_seedNow m_tape m_has m_keptHas m_first m_second m_keptFirst m_keptSecond m_pa m_pb m_pNorm m_cubed m_isOpen m_signs m_often m_la0 m_lb0 y356 hy356) rfl rfl [] rfl rfl rfl rfl rfl rfl (fun H locs X => ?_)
  refine x_goto 319 C dX11_writes_359 rfl ?_
  exact hk319 y356.1 y356.2 m_threes m_primes m_ones (m_unit + (1 : Int32)) m_pa m_pb m_pNorm v1 v3 v5 v7 _ _ _ X (lv_sub hl [0, 1, 2, 3, 4] rfl) hf
set_option maxHeartbeats 4000000 in
set_option maxRecDepth 100000 in
theorem w_X11_writes_319 {E : KE} {A : Nat → Prop} {D : va_G} {T : KT} (h : Nat → Nat) (C : kx_C E cX11_writes 13 none RX11 5 146 D T) (N : Nat) (x : Int64 × Int64 × Int32 × Int32 × Int32 × Int32 × (Nat → Int32) × (Nat → Int32) × (Nat → Int32)) (m_taped m_states : Int32) (m_allParts m_allNorms m_allClasses : Int64) (m_odd : Int32) (m_boxWide m_boxHigh m_boxStep : Int64) (m_partingMany : Int32) (m_qa m_qb m_la m_lb m_sa m_sb m_ta m_tb : Int64) (m_listed m_tells m_wanted m_found : Int32) (m_bits : Int64) (m_power2 m_rings m_ringA m_ringB m_seedNow : Int32) (m_tape m_has m_keptHas m_first m_second m_keptFirst m_keptSecond m_cubed m_isOpen m_signs m_often m_la0 m_lb0 : Nat → Int32) (R : kx_RV E cX11_writes D A (wM T h m_taped m_states x.1 x.2.1 x.2.2.1 x.2.2.2.1 x.2.2.2.2.1 x.2.2.2.2.2.1 m_allParts m_allNorms m_allClasses m_odd m_boxWide m_boxHigh m_boxStep m_partingMany m_qa m_qb m_la m_lb m_sa m_sb m_ta m_tb m_listed m_tells m_wanted m_found m_bits m_power2 m_rings m_ringA m_ringB m_seedNow m_tape m_has m_keptHas m_first m_second m_keptFirst m_keptSecond x.2.2.2.2.2.2.1 x.2.2.2.2.2.2.2.1 x.2.2.2.2.2.2.2.2 m_cubed m_isOpen m_signs m_often m_la0 m_lb0)) : ∀ (k : Nat), ∀ (m_ra m_rb : Int64) (m_threes m_primes m_ones m_unit : Int32) (m_pa m_pb m_pNorm : Nat → Int32) (v1 v3 v5 v7 : Int64) (H : Heap) (locs : List Loc) (ls : Array Slot), kx_H E D A H locs (wM T h m_taped m_states m_ra m_rb m_threes m_primes m_ones m_unit m_allParts m_allNorms m_allClasses m_odd m_boxWide m_boxHigh m_boxStep m_partingMany m_qa m_qb m_la m_lb m_sa m_sb m_ta m_tb m_listed m_tells m_wanted m_found m_bits m_power2 m_rings m_ringA m_ringB m_seedNow m_tape m_has m_keptHas m_first m_second m_keptFirst m_keptSecond m_pa m_pb m_pNorm m_cubed m_isOpen m_signs m_often m_la0 m_lb0) → lv_has ls 13 [(0, .ref (h 0)), (1, .long v1), (3, .long v3), (5, .long v5), (7, .long v7)] → f_X11_writes_319 N k v1 v3 v5 v7 m_ra m_rb m_threes m_primes m_ones m_unit m_pa m_pb m_pNorm = some x → kx_W E H locs 319 ls [] := by
  intro k
  induction k with
  | zero =>
    intro m_ra m_rb m_threes m_primes m_ones m_unit m_pa m_pb m_pNorm v1 v3 v5 v7 H locs ls X hl hf
    cases (show (none : Option (Int64 × Int64 × Int32 × Int32 × Int32 × Int32 × (Nat → Int32) × (Nat → Int32) × (Nat → Int32))) = some x from hf)
  | succ k ih =>
    intro m_ra m_rb m_threes m_primes m_ones m_unit m_pa m_pb m_pNorm v1 v3 v5 v7 H locs ls X hl hf
    rw [f_X11_writes_319] at hf
    refine x_aload_n 320 C dX11_writes_319 hl 0 rfl rfl ?_
    refine x_get 323 C dX11_writes_320 X kf_X11_105 0 rfl rfl rfl ?_
    refine x_lload_n 324 C dX11_writes_323 hl 1 rfl rfl ?_
    refine x_lcmp_ne 337 325 328 C dX11_writes_324 dX11_writes_325 rfl rfl rfl hf (fun hf => ?_) (fun hf => ?_)
    · exact w_X11_writes_337 h C N x m_taped m_states m_allParts m_allNorms m_allClasses m_odd m_boxWide m_boxHigh m_boxStep m_partingMany m_qa m_qb m_la m_lb m_sa m_sb m_ta m_tb m_listed m_tells m_wanted m_found m_bits m_power2 m_rings m_ringA m_ringB m_seedNow m_tape m_has m_keptHas m_first m_second m_keptFirst m_keptSecond m_cubed m_isOpen m_signs m_often m_la0 m_lb0 R (f_X11_writes_319 N k) ih m_ra m_rb m_threes m_primes m_ones m_unit m_pa m_pb m_pNorm v1 v3 v5 v7 _ _ _ X (lv_sub hl [0, 1, 2, 3, 4] rfl) hf
    refine x_aload_n 329 C dX11_writes_328 hl 0 rfl rfl ?_
    refine x_get 332 C dX11_writes_329 X kf_X11_109 0 rfl rfl rfl ?_
    refine x_lload_n 333 C dX11_writes_332 hl 2 rfl rfl ?_
    refine x_lcmp_eq 362 334 337 C dX11_writes_333 dX11_writes_334 rfl rfl rfl hf (fun hf => ?_) (fun hf => ?_)
    · obtain rfl := Option.some.inj hf
      exact R _ _ _ _ X dX11_writes_362
    exact w_X11_writes_337 h C N x m_taped m_states m_allParts m_allNorms m_allClasses m_odd m_boxWide m_boxHigh m_boxStep m_partingMany m_qa m_qb m_la m_lb m_sa m_sb m_ta m_tb m_listed m_tells m_wanted m_found m_bits m_power2 m_rings m_ringA m_ringB m_seedNow m_tape m_has m_keptHas m_first m_second m_keptFirst m_keptSecond m_cubed m_isOpen m_signs m_often m_la0 m_lb0 R (f_X11_writes_319 N k) ih m_ra m_rb m_threes m_primes m_ones m_unit m_pa m_pb m_pNorm v1 v3 v5 v7 _ _ _ X (lv_sub hl [0, 1, 2, 3, 4] rfl) hf
set_option maxHeartbeats 4000000 in
set_option maxRecDepth 100000 in
theorem w_X11_writes_262 {E : KE} {A : Nat → Prop} {D : va_G} {T : KT} (h : Nat → Nat) (C : kx_C E cX11_writes 13 none RX11 5 146 D T) (N : Nat) (x : Int64 × Int64 × Int32 × Int32 × Int32 × Int32 × (Nat → Int32) × (Nat → Int32) × (Nat → Int32)) (m_taped m_states : Int32) (m_allParts m_allNorms m_allClasses : Int64) (m_odd : Int32) (m_boxWide m_boxHigh m_boxStep : Int64) (m_partingMany : Int32) (m_qa m_qb m_la m_lb m_sa m_sb m_ta m_tb : Int64) (m_listed m_tells m_wanted m_found : Int32) (m_bits : Int64) (m_power2 m_rings m_ringA m_ringB m_seedNow : Int32) (m_tape m_has m_keptHas m_first m_second m_keptFirst m_keptSecond m_cubed m_isOpen m_signs m_often m_la0 m_lb0 : Nat → Int32) (R : kx_RV E cX11_writes D A (wM T h m_taped m_states x.1 x.2.1 x.2.2.1 x.2.2.2.1 x.2.2.2.2.1 x.2.2.2.2.2.1 m_allParts m_allNorms m_allClasses m_odd m_boxWide m_boxHigh m_boxStep m_partingMany m_qa m_qb m_la m_lb m_sa m_sb m_ta m_tb m_listed m_tells m_wanted m_found m_bits m_power2 m_rings m_ringA m_ringB m_seedNow m_tape m_has m_keptHas m_first m_second m_keptFirst m_keptSecond x.2.2.2.2.2.2.1 x.2.2.2.2.2.2.2.1 x.2.2.2.2.2.2.2.2 m_cubed m_isOpen m_signs m_often m_la0 m_lb0)) : ∀ (k : Nat), ∀ (m_ra m_rb : Int64) (m_threes m_primes m_ones m_unit : Int32) (m_pa m_pb m_pNorm : Nat → Int32) (v1 v3 : Int64) (v10 : Int32) (H : Heap) (locs : List Loc) (ls : Array Slot), kx_H E D A H locs (wM T h m_taped m_states m_ra m_rb m_threes m_primes m_ones m_unit m_allParts m_allNorms m_allClasses m_odd m_boxWide m_boxHigh m_boxStep m_partingMany m_qa m_qb m_la m_lb m_sa m_sb m_ta m_tb m_listed m_tells m_wanted m_found m_bits m_power2 m_rings m_ringA m_ringB m_seedNow m_tape m_has m_keptHas m_first m_second m_keptFirst m_keptSecond m_pa m_pb m_pNorm m_cubed m_isOpen m_signs m_often m_la0 m_lb0) → lv_has ls 13 [(0, .ref (h 0)), (1, .long v1), (3, .long v3), (10, .int v10)] → f_X11_writes_262 N k v1 v3 v10 m_ra m_rb m_threes m_primes m_ones m_pa m_pb m_pNorm = some x → kx_W E H locs 262 ls [] := by
  intro k
  induction k with
  | zero =>
    intro m_ra m_rb m_threes m_primes m_ones m_unit m_pa m_pb m_pNorm v1 v3 v10 H locs ls X hl hf
    cases (show (none : Option (Int64 × Int64 × Int32 × Int32 × Int32 × Int32 × (Nat → Int32) × (Nat → Int32) × (Nat → Int32))) = some x from hf)
  | succ k ih =>
    intro m_ra m_rb m_threes m_primes m_ones m_unit m_pa m_pb m_pNorm v1 v3 v10 H locs ls X hl hf
    rw [f_X11_writes_262] at hf
    refine x_iload 264 C dX11_writes_262 hl 3 rfl rfl ?_
    refine x_aload_n 265 C dX11_writes_264 hl 0 rfl rfl ?_
    refine x_get 268 C dX11_writes_265 X kf_X11_204 0 rfl rfl rfl ?_
    refine x_icmp_ge 293 271 C dX11_writes_268 rfl rfl hf (fun hf => ?_) (fun hf => ?_)
    · refine x_aload_n 294 C dX11_writes_293 hl 0 rfl rfl ?_
      refine x_get 297 C dX11_writes_294 X kf_X11_105 0 rfl rfl rfl ?_
      refine x_lstore 299 C dX11_writes_297 [(5, .long m_ra), (0, .ref (h 0)), (1, .long v1), (3, .long v3), (10, .int v10)] hl rfl rfl rfl (fun ls hl => ?_)
      refine x_aload_n 300 C dX11_writes_299 hl 1 rfl rfl ?_
      refine x_get 303 C dX11_writes_300 X kf_X11_109 0 rfl rfl rfl ?_
      refine x_lstore 305 C dX11_writes_303 [(7, .long m_rb), (5, .long m_ra), (0, .ref (h 0)), (1, .long v1), (3, .long v3), (10, .int v10)] hl rfl rfl rfl (fun ls hl => ?_)
      refine x_aload_n 306 C dX11_writes_305 hl 2 rfl rfl ?_
      refine x_iconst 307 C dX11_writes_306 (0 : Int32) kv_iconst_0 rfl ?_
      refine x_put 310 C dX11_writes_307 X kp_X11_214 0 rfl rfl rfl rfl (wM T h m_taped m_states m_ra m_rb m_threes m_primes m_ones (0 : Int32) m_allParts m_allNorms m_allClasses m_odd m_boxWide m_boxHigh m_boxStep m_partingMany m_qa m_qb m_la m_lb m_sa m_sb m_ta m_tb m_listed m_tells m_wanted m_found m_bits m_power2 m_rings m_ringA m_ringB m_seedNow m_tape m_has m_keptHas m_first m_second m_keptFirst m_keptSecond m_pa m_pb m_pNorm m_cubed m_isOpen m_signs m_often m_la0 m_lb0) rfl rfl (fun H locs X => ?_)
      refine x_aload_n 311 C dX11_writes_310 hl 2 rfl rfl ?_
      refine x_lload 313 C dX11_writes_311 hl 1 rfl rfl ?_
      refine x_lload 315 C dX11_writes_313 hl 0 rfl rfl ?_
      refine x_iconst 316 C dX11_writes_315 (0 : Int32) kv_iconst_0 rfl ?_
      obtain ⟨y316, hy316, hf⟩ := kx_bind hf
      refine x_callVv0 319 C dX11_writes_316 X hl kl_X11_187 (c_X11_unitTimes E.2.1 D T h N m_ra m_rb (0 : Int32) m_taped m_states m_ra m_rb m_threes m_primes m_ones (0 : Int32) m_allParts m_allNorms m_allClasses m_odd m_boxWide m_boxHigh m_boxStep m_partingMany m_qa m_qb m_la m_lb m_sa m_sb m_ta m_tb m_listed m_tells m_wanted m_found m_bits m_power2 m_rings m_ringA m_ringB m_seedNow m_tape m_has m_keptHas m_first m_second m_keptFirst m_keptSecond m_pa m_pb m_pNorm m_cubed m_isOpen m_signs m_often m_la0 m_lb0 y316 hy316) rfl rfl [] rfl rfl rfl rfl rfl rfl (fun H locs X => ?_)
      exact w_X11_writes_319 h C N x m_taped m_states m_allParts m_allNorms m_allClasses m_odd m_boxWide m_boxHigh m_boxStep m_partingMany m_qa m_qb m_la m_lb m_sa m_sb m_ta m_tb m_listed m_tells m_wanted m_found m_bits m_power2 m_rings m_ringA m_ringB m_seedNow m_tape m_has m_keptHas m_first m_second m_keptFirst m_keptSecond m_cubed m_isOpen m_signs m_often m_la0 m_lb0 R  N y316.1 y316.2 m_threes m_primes m_ones (0 : Int32) m_pa m_pb m_pNorm v1 v3 m_ra m_rb _ _ _ X (lv_sub hl [2, 3, 4, 1, 0] rfl) hf
    refine x_aload_n 272 C dX11_writes_271 hl 0 rfl rfl ?_
    refine x_aload_n 273 C dX11_writes_272 hl 0 rfl rfl ?_
    refine x_get 276 C dX11_writes_273 X kf_X11_105 0 rfl rfl rfl ?_
    refine x_aload_n 277 C dX11_writes_276 hl 0 rfl rfl ?_
    refine x_get 280 C dX11_writes_277 X kf_X11_109 0 rfl rfl rfl ?_
    refine x_lconst 281 C dX11_writes_280 (1 : Int64) kv_lconst_1 rfl ?_
    refine x_ldc2_w 284 C dX11_writes_281 (-1 : Int64) kc_X11_151 rfl ?_
    obtain ⟨y284, hy284, hf⟩ := kx_bind hf
    refine x_callVv0 287 C dX11_writes_284 X hl kl_X11_121 (c_X11_times E.2.1 D T h m_ra m_rb (1 : Int64) (-1 : Int64) m_taped m_states m_ra m_rb m_threes m_primes m_ones m_unit m_allParts m_allNorms m_allClasses m_odd m_boxWide m_boxHigh m_boxStep m_partingMany m_qa m_qb m_la m_lb m_sa m_sb m_ta m_tb m_listed m_tells m_wanted m_found m_bits m_power2 m_rings m_ringA m_ringB m_seedNow m_tape m_has m_keptHas m_first m_second m_keptFirst m_keptSecond m_pa m_pb m_pNorm m_cubed m_isOpen m_signs m_often m_la0 m_lb0 y284 hy284) rfl rfl [] rfl rfl rfl rfl rfl rfl (fun H locs X => ?_)
    refine x_iinc 290 C dX11_writes_287 (1 : Int32) kv_iconst_1 [(10, .int (v10 + (1 : Int32))), (0, .ref (h 0)), (1, .long v1), (3, .long v3)] hl 3 rfl rfl rfl rfl (fun ls hl => ?_)
    refine x_goto 262 C dX11_writes_290 rfl ?_
    exact ih y284.1 y284.2 m_threes m_primes m_ones m_unit m_pa m_pb m_pNorm v1 v3 (v10 + (1 : Int32)) _ _ _ X (lv_sub hl [1, 2, 3, 0] rfl) hf
set_option maxHeartbeats 4000000 in
set_option maxRecDepth 100000 in
theorem w_X11_writes_216 {E : KE} {A : Nat → Prop} {D : va_G} {T : KT} (h : Nat → Nat) (C : kx_C E cX11_writes 13 none RX11 5 146 D T) (N : Nat) (x : Int64 × Int64 × Int32 × Int32 × Int32 × Int32 × (Nat → Int32) × (Nat → Int32) × (Nat → Int32)) (m_taped m_states : Int32) (m_allParts m_allNorms m_allClasses : Int64) (m_odd : Int32) (m_boxWide m_boxHigh m_boxStep : Int64) (m_partingMany : Int32) (m_qa m_qb m_la m_lb m_sa m_sb m_ta m_tb : Int64) (m_listed m_tells m_wanted m_found : Int32) (m_bits : Int64) (m_power2 m_rings m_ringA m_ringB m_seedNow : Int32) (m_tape m_has m_keptHas m_first m_second m_keptFirst m_keptSecond m_cubed m_isOpen m_signs m_often m_la0 m_lb0 : Nat → Int32) (R : kx_RV E cX11_writes D A (wM T h m_taped m_states x.1 x.2.1 x.2.2.1 x.2.2.2.1 x.2.2.2.2.1 x.2.2.2.2.2.1 m_allParts m_allNorms m_allClasses m_odd m_boxWide m_boxHigh m_boxStep m_partingMany m_qa m_qb m_la m_lb m_sa m_sb m_ta m_tb m_listed m_tells m_wanted m_found m_bits m_power2 m_rings m_ringA m_ringB m_seedNow m_tape m_has m_keptHas m_first m_second m_keptFirst m_keptSecond x.2.2.2.2.2.2.1 x.2.2.2.2.2.2.2.1 x.2.2.2.2.2.2.2.2 m_cubed m_isOpen m_signs m_often m_la0 m_lb0)) : ∀ (k : Nat), ∀ (m_ra m_rb : Int64) (m_threes m_primes m_ones m_unit : Int32) (m_pa m_pb m_pNorm : Nat → Int32) (v1 v3 : Int64) (v10 : Int32) (H : Heap) (locs : List Loc) (ls : Array Slot), kx_H E D A H locs (wM T h m_taped m_states m_ra m_rb m_threes m_primes m_ones m_unit m_allParts m_allNorms m_allClasses m_odd m_boxWide m_boxHigh m_boxStep m_partingMany m_qa m_qb m_la m_lb m_sa m_sb m_ta m_tb m_listed m_tells m_wanted m_found m_bits m_power2 m_rings m_ringA m_ringB m_seedNow m_tape m_has m_keptHas m_first m_second m_keptFirst m_keptSecond m_pa m_pb m_pNorm m_cubed m_isOpen m_signs m_often m_la0 m_lb0) → lv_has ls 13 [(0, .ref (h 0)), (1, .long v1), (3, .long v3), (10, .int v10)] → f_X11_writes_216 N k v1 v3 v10 m_ra m_rb m_threes m_primes m_ones m_pa m_pb m_pNorm = some x → kx_W E H locs 216 ls [] := by
  intro k
  induction k with
  | zero =>
    intro m_ra m_rb m_threes m_primes m_ones m_unit m_pa m_pb m_pNorm v1 v3 v10 H locs ls X hl hf
    cases (show (none : Option (Int64 × Int64 × Int32 × Int32 × Int32 × Int32 × (Nat → Int32) × (Nat → Int32) × (Nat → Int32))) = some x from hf)
  | succ k ih =>
    intro m_ra m_rb m_threes m_primes m_ones m_unit m_pa m_pb m_pNorm v1 v3 v10 H locs ls X hl hf
    rw [f_X11_writes_216] at hf
    refine x_iload 218 C dX11_writes_216 hl 3 rfl rfl ?_
    refine x_aload_n 219 C dX11_writes_218 hl 0 rfl rfl ?_
    refine x_get 222 C dX11_writes_219 X kf_X11_201 0 rfl rfl rfl ?_
    refine x_icmp_ge 259 225 C dX11_writes_222 rfl rfl hf (fun hf => ?_) (fun hf => ?_)
    · refine x_iconst 260 C dX11_writes_259 (0 : Int32) kv_iconst_0 rfl ?_
      refine x_istore 262 C dX11_writes_260 [(10, .int (0 : Int32)), (0, .ref (h 0)), (1, .long v1), (3, .long v3)] hl rfl rfl rfl (fun ls hl => ?_)
      exact w_X11_writes_262 h C N x m_taped m_states m_allParts m_allNorms m_allClasses m_odd m_boxWide m_boxHigh m_boxStep m_partingMany m_qa m_qb m_la m_lb m_sa m_sb m_ta m_tb m_listed m_tells m_wanted m_found m_bits m_power2 m_rings m_ringA m_ringB m_seedNow m_tape m_has m_keptHas m_first m_second m_keptFirst m_keptSecond m_cubed m_isOpen m_signs m_often m_la0 m_lb0 R  N m_ra m_rb m_threes m_primes m_ones m_unit m_pa m_pb m_pNorm v1 v3 (0 : Int32) _ _ _ X (lv_sub hl [1, 2, 3, 0] rfl) hf
    refine x_aload_n 226 C dX11_writes_225 hl 0 rfl rfl ?_
    refine x_aload_n 227 C dX11_writes_226 hl 0 rfl rfl ?_
    refine x_get 230 C dX11_writes_227 X kf_X11_105 0 rfl rfl rfl ?_
    refine x_aload_n 231 C dX11_writes_230 hl 0 rfl rfl ?_
    refine x_get 234 C dX11_writes_231 X kf_X11_109 0 rfl rfl rfl ?_
    refine x_aload_n 235 C dX11_writes_234 hl 0 rfl rfl ?_
    refine x_get 238 C dX11_writes_235 X kf_X11_33 0 rfl rfl rfl ?_
    refine x_iload 240 C dX11_writes_238 hl 3 rfl rfl ?_
    refine x_iald 241 C dX11_writes_240 X 8 rfl hf rfl (fun hf => ?_)
    refine x_i2l 242 C dX11_writes_241 rfl ?_
    refine x_aload_n 243 C dX11_writes_242 hl 0 rfl rfl ?_
    refine x_get 246 C dX11_writes_243 X kf_X11_36 0 rfl rfl rfl ?_
    refine x_iload 248 C dX11_writes_246 hl 3 rfl rfl ?_
    refine x_iald 249 C dX11_writes_248 X 9 rfl hf rfl (fun hf => ?_)
    refine x_i2l 250 C dX11_writes_249 rfl ?_
    obtain ⟨y250, hy250, hf⟩ := kx_bind hf
    refine x_callVv0 253 C dX11_writes_250 X hl kl_X11_121 (c_X11_times E.2.1 D T h m_ra m_rb ((m_pa (v10).toNatClampNeg)).toInt64 ((m_pb (v10).toNatClampNeg)).toInt64 m_taped m_states m_ra m_rb m_threes m_primes m_ones m_unit m_allParts m_allNorms m_allClasses m_odd m_boxWide m_boxHigh m_boxStep m_partingMany m_qa m_qb m_la m_lb m_sa m_sb m_ta m_tb m_listed m_tells m_wanted m_found m_bits m_power2 m_rings m_ringA m_ringB m_seedNow m_tape m_has m_keptHas m_first m_second m_keptFirst m_keptSecond m_pa m_pb m_pNorm m_cubed m_isOpen m_signs m_often m_la0 m_lb0 y250 hy250) rfl rfl [] rfl rfl rfl rfl rfl rfl (fun H locs X => ?_)
    refine x_iinc 256 C dX11_writes_253 (1 : Int32) kv_iconst_1 [(10, .int (v10 + (1 : Int32))), (0, .ref (h 0)), (1, .long v1), (3, .long v3)] hl 3 rfl rfl rfl rfl (fun ls hl => ?_)
    refine x_goto 216 C dX11_writes_256 rfl ?_
    exact ih y250.1 y250.2 m_threes m_primes m_ones m_unit m_pa m_pb m_pNorm v1 v3 (v10 + (1 : Int32)) _ _ _ X (lv_sub hl [1, 2, 3, 0] rfl) hf
set_option maxHeartbeats 4000000 in
set_option maxRecDepth 100000 in
theorem w_X11_writes_40 {E : KE} {A : Nat → Prop} {D : va_G} {T : KT} (h : Nat → Nat) (C : kx_C E cX11_writes 13 none RX11 5 146 D T) (N : Nat) (x : Int64 × Int64 × Int32 × Int32 × Int32 × Int32 × (Nat → Int32) × (Nat → Int32) × (Nat → Int32)) (m_taped m_states : Int32) (m_allParts m_allNorms m_allClasses : Int64) (m_odd : Int32) (m_boxWide m_boxHigh m_boxStep : Int64) (m_partingMany : Int32) (m_qa m_qb m_la m_lb m_sa m_sb m_ta m_tb : Int64) (m_listed m_tells m_wanted m_found : Int32) (m_bits : Int64) (m_power2 m_rings m_ringA m_ringB m_seedNow : Int32) (m_tape m_has m_keptHas m_first m_second m_keptFirst m_keptSecond m_cubed m_isOpen m_signs m_often m_la0 m_lb0 : Nat → Int32) (R : kx_RV E cX11_writes D A (wM T h m_taped m_states x.1 x.2.1 x.2.2.1 x.2.2.2.1 x.2.2.2.2.1 x.2.2.2.2.2.1 m_allParts m_allNorms m_allClasses m_odd m_boxWide m_boxHigh m_boxStep m_partingMany m_qa m_qb m_la m_lb m_sa m_sb m_ta m_tb m_listed m_tells m_wanted m_found m_bits m_power2 m_rings m_ringA m_ringB m_seedNow m_tape m_has m_keptHas m_first m_second m_keptFirst m_keptSecond x.2.2.2.2.2.2.1 x.2.2.2.2.2.2.2.1 x.2.2.2.2.2.2.2.2 m_cubed m_isOpen m_signs m_often m_la0 m_lb0)) : ∀ (k : Nat), ∀ (m_ra m_rb : Int64) (m_threes m_primes m_ones m_unit : Int32) (m_pa m_pb m_pNorm : Nat → Int32) (v1 v3 v5 v7 : Int64) (v9 : Int32) (H : Heap) (locs : List Loc) (ls : Array Slot), kx_H E D A H locs (wM T h m_taped m_states m_ra m_rb m_threes m_primes m_ones m_unit m_allParts m_allNorms m_allClasses m_odd m_boxWide m_boxHigh m_boxStep m_partingMany m_qa m_qb m_la m_lb m_sa m_sb m_ta m_tb m_listed m_tells m_wanted m_found m_bits m_power2 m_rings m_ringA m_ringB m_seedNow m_tape m_has m_keptHas m_first m_second m_keptFirst m_keptSecond m_pa m_pb m_pNorm m_cubed m_isOpen m_signs m_often m_la0 m_lb0) → lv_has ls 13 [(0, .ref (h 0)), (1, .long v1), (3, .long v3), (5, .long v5), (7, .long v7), (9, .int v9)] → f_X11_writes_40 N k v1 v3 v5 v7 v9 m_threes m_primes m_ones m_pa m_pb m_pNorm = some x → kx_W E H locs 40 ls [] := by
  intro k
  induction k with
  | zero =>
    intro m_ra m_rb m_threes m_primes m_ones m_unit m_pa m_pb m_pNorm v1 v3 v5 v7 v9 H locs ls X hl hf
    cases (show (none : Option (Int64 × Int64 × Int32 × Int32 × Int32 × Int32 × (Nat → Int32) × (Nat → Int32) × (Nat → Int32))) = some x from hf)
  | succ k ih =>
    intro m_ra m_rb m_threes m_primes m_ones m_unit m_pa m_pb m_pNorm v1 v3 v5 v7 v9 H locs ls X hl hf
    rw [f_X11_writes_40] at hf
    refine x_iload 42 C dX11_writes_40 hl 5 rfl rfl ?_
    refine x_iconst 43 C dX11_writes_42 (1 : Int32) kv_iconst_1 rfl ?_
    refine x_icmp_le 207 46 C dX11_writes_43 rfl rfl hf (fun hf => ?_) (fun hf => ?_)
    · refine x_aload_n 208 C dX11_writes_207 hl 0 rfl rfl ?_
      refine x_lconst 209 C dX11_writes_208 (1 : Int64) kv_lconst_1 rfl ?_
      refine x_lconst 210 C dX11_writes_209 (0 : Int64) kv_lconst_0 rfl ?_
      obtain ⟨y210, hy210, hf⟩ := kx_bind hf
      refine x_callVv0 213 C dX11_writes_210 X hl kl_X11_115 (c_X11_sets E.2.1 D T h (1 : Int64) (0 : Int64) m_taped m_states m_ra m_rb m_threes m_primes m_ones m_unit m_allParts m_allNorms m_allClasses m_odd m_boxWide m_boxHigh m_boxStep m_partingMany m_qa m_qb m_la m_lb m_sa m_sb m_ta m_tb m_listed m_tells m_wanted m_found m_bits m_power2 m_rings m_ringA m_ringB m_seedNow m_tape m_has m_keptHas m_first m_second m_keptFirst m_keptSecond m_pa m_pb m_pNorm m_cubed m_isOpen m_signs m_often m_la0 m_lb0 y210 hy210) rfl rfl [] rfl rfl rfl rfl rfl rfl (fun H locs X => ?_)
      refine x_iconst 214 C dX11_writes_213 (0 : Int32) kv_iconst_0 rfl ?_
      refine x_istore 216 C dX11_writes_214 [(10, .int (0 : Int32)), (0, .ref (h 0)), (1, .long v1), (3, .long v3), (5, .long v5), (7, .long v7), (9, .int v9)] hl rfl rfl rfl (fun ls hl => ?_)
      exact w_X11_writes_216 h C N x m_taped m_states m_allParts m_allNorms m_allClasses m_odd m_boxWide m_boxHigh m_boxStep m_partingMany m_qa m_qb m_la m_lb m_sa m_sb m_ta m_tb m_listed m_tells m_wanted m_found m_bits m_power2 m_rings m_ringA m_ringB m_seedNow m_tape m_has m_keptHas m_first m_second m_keptFirst m_keptSecond m_cubed m_isOpen m_signs m_often m_la0 m_lb0 R  N y210.1 y210.2 m_threes m_primes m_ones m_unit m_pa m_pb m_pNorm v1 v3 (0 : Int32) _ _ _ X (lv_sub hl [1, 2, 3, 0] rfl) hf
    refine x_iload 48 C dX11_writes_46 hl 5 rfl rfl ?_
    obtain ⟨y48, hy48, hf⟩ := kx_bind hf
    refine x_callSi 51 C dX11_writes_48 X hl kl_X11_156 (c_X11_leastPart E.2.1 D T  N v9  y48 hy48) [] rfl rfl rfl rfl rfl cb_7 rfl (fun H locs X => ?_)
    refine x_istore 53 C dX11_writes_51 [(10, .int y48), (0, .ref (h 0)), (1, .long v1), (3, .long v3), (5, .long v5), (7, .long v7), (9, .int v9)] hl rfl rfl rfl (fun ls hl => ?_)
    refine x_iload 55 C dX11_writes_53 hl 0 rfl rfl ?_
    refine x_iconst 56 C dX11_writes_55 (3 : Int32) kv_iconst_3 rfl ?_
    refine x_irem0 57 C dX11_writes_56 kz_i_3 rfl ?_
    refine x_iconst 58 C dX11_writes_57 (2 : Int32) kv_iconst_2 rfl ?_
    refine x_icmp_ne 97 61 C dX11_writes_58 rfl rfl hf (fun hf => ?_) (fun hf => ?_)
    · refine x_aload_n 98 C dX11_writes_97 hl 1 rfl rfl ?_
      refine x_lload 100 C dX11_writes_98 hl 4 rfl rfl ?_
      refine x_lload 102 C dX11_writes_100 hl 5 rfl rfl ?_
      refine x_iload 104 C dX11_writes_102 hl 0 rfl rfl ?_
      refine x_i2l 105 C dX11_writes_104 rfl ?_
      refine x_lconst 106 C dX11_writes_105 (0 : Int64) kv_lconst_0 rfl ?_
      obtain ⟨y106, hy106, hf⟩ := kx_bind hf
      refine x_callVv0 109 C dX11_writes_106 X hl kl_X11_153 (c_X11_commons E.2.1 D T h N v5 v7 (y48).toInt64 (0 : Int64) m_taped m_states m_ra m_rb m_threes m_primes m_ones m_unit m_allParts m_allNorms m_allClasses m_odd m_boxWide m_boxHigh m_boxStep m_partingMany m_qa m_qb m_la m_lb m_sa m_sb m_ta m_tb m_listed m_tells m_wanted m_found m_bits m_power2 m_rings m_ringA m_ringB m_seedNow m_tape m_has m_keptHas m_first m_second m_keptFirst m_keptSecond m_pa m_pb m_pNorm m_cubed m_isOpen m_signs m_often m_la0 m_lb0 y106 hy106) rfl rfl [] rfl rfl rfl rfl rfl rfl (fun H locs X => ?_)
      refine x_aload_n 110 C dX11_writes_109 hl 1 rfl rfl ?_
      refine x_get 113 C dX11_writes_110 X kf_X11_105 0 rfl rfl rfl ?_
      refine x_aload_n 114 C dX11_writes_113 hl 1 rfl rfl ?_
      refine x_get 117 C dX11_writes_114 X kf_X11_109 0 rfl rfl rfl ?_
      obtain ⟨y117, hy117, hf⟩ := kx_bind hf
      refine x_callSl 120 C dX11_writes_117 X hl kl_X11_112 (c_X11_norm E.2.1 D T  y106.1 y106.2  y117 hy117) [] rfl rfl rfl rfl rfl cb_7 rfl (fun H locs X => ?_)
      refine x_iload 122 C dX11_writes_120 hl 0 rfl rfl ?_
      refine x_i2l 123 C dX11_writes_122 rfl ?_
      refine x_iload 125 C dX11_writes_123 hl 0 rfl rfl ?_
      refine x_i2l 126 C dX11_writes_125 rfl ?_
      refine x_lmul 127 C dX11_writes_126 rfl ?_
      refine x_lcmp_ne 137 128 131 C dX11_writes_127 dX11_writes_128 rfl rfl rfl hf (fun hf => ?_) (fun hf => ?_)
      · exact w_X11_writes_137 h C N x m_taped m_states m_allParts m_allNorms m_allClasses m_odd m_boxWide m_boxHigh m_boxStep m_partingMany m_qa m_qb m_la m_lb m_sa m_sb m_ta m_tb m_listed m_tells m_wanted m_found m_bits m_power2 m_rings m_ringA m_ringB m_seedNow m_tape m_has m_keptHas m_first m_second m_keptFirst m_keptSecond m_cubed m_isOpen m_signs m_often m_la0 m_lb0 R (f_X11_writes_40 N k) ih y106.1 y106.2 m_threes m_primes m_ones m_unit m_pa m_pb m_pNorm v1 v3 v5 v7 v9 y48 _ _ _ X (lv_sub hl [1, 2, 3, 4, 5, 6, 0] rfl) hf
      refine x_aload_n 132 C dX11_writes_131 hl 1 rfl rfl ?_
      refine x_iload 134 C dX11_writes_132 hl 0 rfl rfl ?_
      obtain ⟨y134, hy134, hf⟩ := kx_bind hf
      refine x_callVv0 137 C dX11_writes_134 X hl kl_X11_211 (c_X11_splits E.2.1 D T h N y48 m_taped m_states y106.1 y106.2 m_threes m_primes m_ones m_unit m_allParts m_allNorms m_allClasses m_odd m_boxWide m_boxHigh m_boxStep m_partingMany m_qa m_qb m_la m_lb m_sa m_sb m_ta m_tb m_listed m_tells m_wanted m_found m_bits m_power2 m_rings m_ringA m_ringB m_seedNow m_tape m_has m_keptHas m_first m_second m_keptFirst m_keptSecond m_pa m_pb m_pNorm m_cubed m_isOpen m_signs m_often m_la0 m_lb0 y134 hy134) rfl rfl [] rfl rfl rfl rfl rfl rfl (fun H locs X => ?_)
      exact w_X11_writes_137 h C N x m_taped m_states m_allParts m_allNorms m_allClasses m_odd m_boxWide m_boxHigh m_boxStep m_partingMany m_qa m_qb m_la m_lb m_sa m_sb m_ta m_tb m_listed m_tells m_wanted m_found m_bits m_power2 m_rings m_ringA m_ringB m_seedNow m_tape m_has m_keptHas m_first m_second m_keptFirst m_keptSecond m_cubed m_isOpen m_signs m_often m_la0 m_lb0 R (f_X11_writes_40 N k) ih y134.1 y134.2 m_threes m_primes m_ones m_unit m_pa m_pb m_pNorm v1 v3 v5 v7 v9 y48 _ _ _ X (lv_sub hl [1, 2, 3, 4, 5, 6, 0] rfl) hf
    refine x_aload_n 62 C dX11_writes_61 hl 1 rfl rfl ?_
    refine x_iload 64 C dX11_writes_62 hl 0 rfl rfl ?_
    refine x_iconst 65 C dX11_writes_64 (0 : Int32) kv_iconst_0 rfl ?_
    obtain ⟨y65, hy65, hf⟩ := kx_bind hf
    refine x_callVv0 68 C dX11_writes_65 X hl kl_X11_207 (c_X11_notes E.2.1 D T h N y48 (0 : Int32) m_taped m_states m_ra m_rb m_threes m_primes m_ones m_unit m_allParts m_allNorms m_allClasses m_odd m_boxWide m_boxHigh m_boxStep m_partingMany m_qa m_qb m_la m_lb m_sa m_sb m_ta m_tb m_listed m_tells m_wanted m_found m_bits m_power2 m_rings m_ringA m_ringB m_seedNow m_tape m_has m_keptHas m_first m_second m_keptFirst m_keptSecond m_pa m_pb m_pNorm m_cubed m_isOpen m_signs m_often m_la0 m_lb0 y65 hy65) rfl rfl [] rfl rfl rfl rfl rfl rfl (fun H locs X => ?_)
    refine x_lload 70 C dX11_writes_68 hl 4 rfl rfl ?_
    refine x_iload 72 C dX11_writes_70 hl 0 rfl rfl ?_
    refine x_i2l 73 C dX11_writes_72 rfl ?_
    refine x_ldiv 74 C dX11_writes_73 hf rfl (fun hf => ?_)
    refine x_lstore 76 C dX11_writes_74 [(5, .long (v5 / (y48).toInt64)), (10, .int y48), (0, .ref (h 0)), (1, .long v1), (3, .long v3), (7, .long v7), (9, .int v9)] hl rfl rfl rfl (fun ls hl => ?_)
    refine x_lload 78 C dX11_writes_76 hl 5 rfl rfl ?_
    refine x_iload 80 C dX11_writes_78 hl 1 rfl rfl ?_
    refine x_i2l 81 C dX11_writes_80 rfl ?_
    refine x_ldiv 82 C dX11_writes_81 hf rfl (fun hf => ?_)
    refine x_lstore 84 C dX11_writes_82 [(7, .long (v7 / (y48).toInt64)), (5, .long (v5 / (y48).toInt64)), (10, .int y48), (0, .ref (h 0)), (1, .long v1), (3, .long v3), (9, .int v9)] hl rfl rfl rfl (fun ls hl => ?_)
    refine x_iload 86 C dX11_writes_84 hl 6 rfl rfl ?_
    refine x_iload 88 C dX11_writes_86 hl 2 rfl rfl ?_
    refine x_idiv 89 C dX11_writes_88 hf rfl (fun hf => ?_)
    refine x_iload 91 C dX11_writes_89 hl 2 rfl rfl ?_
    refine x_idiv 92 C dX11_writes_91 hf rfl (fun hf => ?_)
    refine x_istore 94 C dX11_writes_92 [(9, .int ((v9 / y48) / y48)), (7, .long (v7 / (y48).toInt64)), (5, .long (v5 / (y48).toInt64)), (10, .int y48), (0, .ref (h 0)), (1, .long v1), (3, .long v3)] hl rfl rfl rfl (fun ls hl => ?_)
    refine x_goto 40 C dX11_writes_94 rfl ?_
    exact ih m_ra m_rb m_threes y65.1 m_ones m_unit y65.2.1 y65.2.2.1 y65.2.2.2 v1 v3 (v5 / (y48).toInt64) (v7 / (y48).toInt64) ((v9 / y48) / y48) _ _ _ X (lv_sub hl [4, 5, 6, 2, 1, 0] rfl) hf
set_option maxHeartbeats 4000000 in
set_option maxRecDepth 100000 in
theorem c_X11_writes (l : Launch) (D : va_G) (T : KT) (h : Nat → Nat) (N : Nat) (v1 v3 : Int64) (m_taped m_states : Int32) (m_ra m_rb : Int64) (m_threes m_primes m_ones m_unit : Int32) (m_allParts m_allNorms m_allClasses : Int64) (m_odd : Int32) (m_boxWide m_boxHigh m_boxStep : Int64) (m_partingMany : Int32) (m_qa m_qb m_la m_lb m_sa m_sb m_ta m_tb : Int64) (m_listed m_tells m_wanted m_found : Int32) (m_bits : Int64) (m_power2 m_rings m_ringA m_ringB m_seedNow : Int32) (m_tape m_has m_keptHas m_first m_second m_keptFirst m_keptSecond m_pa m_pb m_pNorm m_cubed m_isOpen m_signs m_often m_la0 m_lb0 : Nat → Int32) (x : Int64 × Int64 × Int32 × Int32 × Int32 × Int32 × (Nat → Int32) × (Nat → Int32) × (Nat → Int32)) (hf : f_X11_writes N v1 v3 m_pa m_pb m_pNorm = some x) : kx_MV l yX11_writes cX11_writes 13 none 5 146 D T [.ref (h 0), .long v1, .long v3] (wM T h m_taped m_states m_ra m_rb m_threes m_primes m_ones m_unit m_allParts m_allNorms m_allClasses m_odd m_boxWide m_boxHigh m_boxStep m_partingMany m_qa m_qb m_la m_lb m_sa m_sb m_ta m_tb m_listed m_tells m_wanted m_found m_bits m_power2 m_rings m_ringA m_ringB m_seedNow m_tape m_has m_keptHas m_first m_second m_keptFirst m_keptSecond m_pa m_pb m_pNorm m_cubed m_isOpen m_signs m_often m_la0 m_lb0) (wM T h m_taped m_states x.1 x.2.1 x.2.2.1 x.2.2.2.1 x.2.2.2.2.1 x.2.2.2.2.2.1 m_allParts m_allNorms m_allClasses m_odd m_boxWide m_boxHigh m_boxStep m_partingMany m_qa m_qb m_la m_lb m_sa m_sb m_ta m_tb m_listed m_tells m_wanted m_found m_bits m_power2 m_rings m_ringA m_ringB m_seedNow m_tape m_has m_keptHas m_first m_second m_keptFirst m_keptSecond x.2.2.2.2.2.2.1 x.2.2.2.2.2.2.2.1 x.2.2.2.2.2.2.2.2 m_cubed m_isOpen m_signs m_often m_la0 m_lb0) := by
  refine kx_ofMV RX11 rfl (plainFor_of_name (x := yX11_writes) kpn_X11) rfl ?_
  intro E A H ls _ C X R hl
  have hl : lv_has ls 13 [(0, .ref (h 0)), (1, .long v1), (3, .long v3)] := hl
  rw [f_X11_writes] at hf
  refine x_aload_n 1 C dX11_writes_0 hl 0 rfl rfl ?_
  refine x_lload_n 2 C dX11_writes_1 hl 1 rfl rfl ?_
  refine x_lload_n 3 C dX11_writes_2 hl 2 rfl rfl ?_
  obtain ⟨y3, hy3, hf⟩ := kx_bind hf
  refine x_callVv0 6 C dX11_writes_3 X hl kl_X11_148 (c_X11_takesThrees E.2.1 D T h N v1 v3 m_taped m_states m_ra m_rb m_threes m_primes m_ones m_unit m_allParts m_allNorms m_allClasses m_odd m_boxWide m_boxHigh m_boxStep m_partingMany m_qa m_qb m_la m_lb m_sa m_sb m_ta m_tb m_listed m_tells m_wanted m_found m_bits m_power2 m_rings m_ringA m_ringB m_seedNow m_tape m_has m_keptHas m_first m_second m_keptFirst m_keptSecond m_pa m_pb m_pNorm m_cubed m_isOpen m_signs m_often m_la0 m_lb0 y3 hy3) rfl rfl [] rfl rfl rfl rfl rfl rfl (fun H locs X => ?_)
  refine x_aload_n 7 C dX11_writes_6 hl 0 rfl rfl ?_
  refine x_aload_n 8 C dX11_writes_7 hl 0 rfl rfl ?_
  refine x_get 11 C dX11_writes_8 X kf_X11_139 0 rfl rfl rfl ?_
  refine x_put 14 C dX11_writes_11 X kp_X11_204 0 rfl rfl rfl rfl (wM T h m_taped m_states y3.1 y3.2.1 y3.2.2 m_primes y3.2.2 m_unit m_allParts m_allNorms m_allClasses m_odd m_boxWide m_boxHigh m_boxStep m_partingMany m_qa m_qb m_la m_lb m_sa m_sb m_ta m_tb m_listed m_tells m_wanted m_found m_bits m_power2 m_rings m_ringA m_ringB m_seedNow m_tape m_has m_keptHas m_first m_second m_keptFirst m_keptSecond m_pa m_pb m_pNorm m_cubed m_isOpen m_signs m_often m_la0 m_lb0) rfl rfl (fun H locs X => ?_)
  refine x_aload_n 15 C dX11_writes_14 hl 0 rfl rfl ?_
  refine x_iconst 16 C dX11_writes_15 (0 : Int32) kv_iconst_0 rfl ?_
  refine x_put 19 C dX11_writes_16 X kp_X11_201 0 rfl rfl rfl rfl (wM T h m_taped m_states y3.1 y3.2.1 y3.2.2 (0 : Int32) y3.2.2 m_unit m_allParts m_allNorms m_allClasses m_odd m_boxWide m_boxHigh m_boxStep m_partingMany m_qa m_qb m_la m_lb m_sa m_sb m_ta m_tb m_listed m_tells m_wanted m_found m_bits m_power2 m_rings m_ringA m_ringB m_seedNow m_tape m_has m_keptHas m_first m_second m_keptFirst m_keptSecond m_pa m_pb m_pNorm m_cubed m_isOpen m_signs m_often m_la0 m_lb0) rfl rfl (fun H locs X => ?_)
  refine x_aload_n 20 C dX11_writes_19 hl 0 rfl rfl ?_
  refine x_get 23 C dX11_writes_20 X kf_X11_105 0 rfl rfl rfl ?_
  refine x_lstore 25 C dX11_writes_23 [(5, .long y3.1), (0, .ref (h 0)), (1, .long v1), (3, .long v3)] hl rfl rfl rfl (fun ls hl => ?_)
  refine x_aload_n 26 C dX11_writes_25 hl 1 rfl rfl ?_
  refine x_get 29 C dX11_writes_26 X kf_X11_109 0 rfl rfl rfl ?_
  refine x_lstore 31 C dX11_writes_29 [(7, .long y3.2.1), (5, .long y3.1), (0, .ref (h 0)), (1, .long v1), (3, .long v3)] hl rfl rfl rfl (fun ls hl => ?_)
  refine x_lload 33 C dX11_writes_31 hl 1 rfl rfl ?_
  refine x_lload 35 C dX11_writes_33 hl 0 rfl rfl ?_
  obtain ⟨y35, hy35, hf⟩ := kx_bind hf
  refine x_callSi 38 C dX11_writes_35 X hl kl_X11_160 (c_X11_normOf E.2.1 D T  y3.1 y3.2.1  y35 hy35) [] rfl rfl rfl rfl rfl cb_7 rfl (fun H locs X => ?_)
  refine x_istore 40 C dX11_writes_38 [(9, .int y35), (7, .long y3.2.1), (5, .long y3.1), (0, .ref (h 0)), (1, .long v1), (3, .long v3)] hl rfl rfl rfl (fun ls hl => ?_)
  exact w_X11_writes_40 h C N x m_taped m_states m_allParts m_allNorms m_allClasses m_odd m_boxWide m_boxHigh m_boxStep m_partingMany m_qa m_qb m_la m_lb m_sa m_sb m_ta m_tb m_listed m_tells m_wanted m_found m_bits m_power2 m_rings m_ringA m_ringB m_seedNow m_tape m_has m_keptHas m_first m_second m_keptFirst m_keptSecond m_cubed m_isOpen m_signs m_often m_la0 m_lb0 R  N y3.1 y3.2.1 y3.2.2 (0 : Int32) y3.2.2 m_unit m_pa m_pb m_pNorm v1 v3 y3.1 y3.2.1 y35 _ _ _ X (lv_sub hl [3, 4, 5, 2, 1, 0] rfl) hf
set_option maxHeartbeats 4000000 in
set_option maxRecDepth 100000 in
theorem c_X11_written (l : Launch) (D : va_G) (T : KT) (h : Nat → Nat) (N : Nat) (v1 v2 v3 : Int32) (m_taped m_states : Int32) (m_ra m_rb : Int64) (m_threes m_primes m_ones m_unit : Int32) (m_allParts m_allNorms m_allClasses : Int64) (m_odd : Int32) (m_boxWide m_boxHigh m_boxStep : Int64) (m_partingMany : Int32) (m_qa m_qb m_la m_lb m_sa m_sb m_ta m_tb : Int64) (m_listed m_tells m_wanted m_found : Int32) (m_bits : Int64) (m_power2 m_rings m_ringA m_ringB m_seedNow : Int32) (m_tape m_has m_keptHas m_first m_second m_keptFirst m_keptSecond m_pa m_pb m_pNorm m_cubed m_isOpen m_signs m_often m_la0 m_lb0 : Nat → Int32) (x : Int32 × Int64 × Int64 × Int32 × Int32 × Int32 × Int32 × (Nat → Int32) × (Nat → Int32) × (Nat → Int32)) (hf : f_X11_written N v1 v2 v3 m_ra m_rb m_threes m_primes m_ones m_unit m_has m_first m_second m_pa m_pb m_pNorm = some x) : kx_MI l yX11_written cX11_written 4 (some .int) 6 178 D T [.ref (h 0), .int v1, .int v2, .int v3] (wM T h m_taped m_states m_ra m_rb m_threes m_primes m_ones m_unit m_allParts m_allNorms m_allClasses m_odd m_boxWide m_boxHigh m_boxStep m_partingMany m_qa m_qb m_la m_lb m_sa m_sb m_ta m_tb m_listed m_tells m_wanted m_found m_bits m_power2 m_rings m_ringA m_ringB m_seedNow m_tape m_has m_keptHas m_first m_second m_keptFirst m_keptSecond m_pa m_pb m_pNorm m_cubed m_isOpen m_signs m_often m_la0 m_lb0) (wM T h m_taped m_states x.2.1 x.2.2.1 x.2.2.2.1 x.2.2.2.2.1 x.2.2.2.2.2.1 x.2.2.2.2.2.2.1 m_allParts m_allNorms m_allClasses m_odd m_boxWide m_boxHigh m_boxStep m_partingMany m_qa m_qb m_la m_lb m_sa m_sb m_ta m_tb m_listed m_tells m_wanted m_found m_bits m_power2 m_rings m_ringA m_ringB m_seedNow m_tape m_has m_keptHas m_first m_second m_keptFirst m_keptSecond x.2.2.2.2.2.2.2.1 x.2.2.2.2.2.2.2.2.1 x.2.2.2.2.2.2.2.2.2 m_cubed m_isOpen m_signs m_often m_la0 m_lb0) x.1 := by
  refine kx_ofMI RX11 rfl (plainFor_of_name (x := yX11_written) kpn_X11) rfl ?_
  intro E A H ls _ C X R hl
  have hl : lv_has ls 4 [(0, .ref (h 0)), (1, .int v1), (2, .int v2), (3, .int v3)] := hl
  rw [f_X11_written] at hf
  refine x_iload_n 1 C dX11_written_0 hl 1 rfl rfl ?_
  obtain ⟨y1, hy1, hf⟩ := kx_bind hf
  refine x_callSi 4 C dX11_written_1 X hl kl_X11_85 (c_X11_isDrawer E.2.1 D T  v1  y1 hy1) [] rfl rfl rfl rfl rfl cb_7 rfl (fun H locs X => ?_)
  refine x_if_eq 41 7 C dX11_written_4 rfl rfl hf (fun hf => ?_) (fun hf => ?_)
  · refine x_ldc 43 C dX11_written_41 (-2147483648 : Int32) kc_X11_164 rfl ?_
    obtain rfl := Option.some.inj hf
    exact R _ _ _ _ X dX11_written_43
  refine x_aload_n 8 C dX11_written_7 hl 0 rfl rfl ?_
  refine x_get 11 C dX11_written_8 X kf_X11_13 0 rfl rfl rfl ?_
  refine x_iload_n 12 C dX11_written_11 hl 1 rfl rfl ?_
  refine x_zald 13 C dX11_written_12 X 2 rfl hf rfl (fun hf => ?_)
  refine x_if_eq 41 16 C dX11_written_13 rfl rfl hf (fun hf => ?_) (fun hf => ?_)
  · refine x_ldc 43 C dX11_written_41 (-2147483648 : Int32) kc_X11_164 rfl ?_
    obtain rfl := Option.some.inj hf
    exact R _ _ _ _ X dX11_written_43
  refine x_aload_n 17 C dX11_written_16 hl 0 rfl rfl ?_
  refine x_iload_n 18 C dX11_written_17 hl 1 rfl rfl ?_
  obtain ⟨y18, hy18, hf⟩ := kx_bind hf
  refine x_callVi0 21 C dX11_written_18 X hl kl_X11_178 (c_X11_isNothing E.2.1 D T h v1 m_taped m_states m_ra m_rb m_threes m_primes m_ones m_unit m_allParts m_allNorms m_allClasses m_odd m_boxWide m_boxHigh m_boxStep m_partingMany m_qa m_qb m_la m_lb m_sa m_sb m_ta m_tb m_listed m_tells m_wanted m_found m_bits m_power2 m_rings m_ringA m_ringB m_seedNow m_tape m_has m_keptHas m_first m_second m_keptFirst m_keptSecond m_pa m_pb m_pNorm m_cubed m_isOpen m_signs m_often m_la0 m_lb0 y18 hy18) rfl rfl [] rfl rfl rfl rfl rfl rfl (fun H locs X => ?_)
  refine x_if_ne 41 24 C dX11_written_21 rfl rfl hf (fun hf => ?_) (fun hf => ?_)
  · refine x_ldc 43 C dX11_written_41 (-2147483648 : Int32) kc_X11_164 rfl ?_
    obtain rfl := Option.some.inj hf
    exact R _ _ _ _ X dX11_written_43
  refine x_iload_n 25 C dX11_written_24 hl 2 rfl rfl ?_
  refine x_iconst 26 C dX11_written_25 (-1 : Int32) kv_iconst_m1 rfl ?_
  refine x_icmp_lt 41 29 C dX11_written_26 rfl rfl hf (fun hf => ?_) (fun hf => ?_)
  · refine x_ldc 43 C dX11_written_41 (-2147483648 : Int32) kc_X11_164 rfl ?_
    obtain rfl := Option.some.inj hf
    exact R _ _ _ _ X dX11_written_43
  refine x_iload_n 30 C dX11_written_29 hl 3 rfl rfl ?_
  refine x_i2l 31 C dX11_written_30 rfl ?_
  refine x_lconst 32 C dX11_written_31 (0 : Int64) kv_lconst_0 rfl ?_
  refine x_ldc2_w 35 C dX11_written_32 (2 : Int64) kc_X11_119 rfl ?_
  obtain ⟨y35, hy35, hf⟩ := kx_bind hf
  refine x_callSi 38 C dX11_written_35 X hl kl_X11_77 (c_X11_in E.2.1 D T  (v3).toInt64 (0 : Int64) (2 : Int64)  y35 hy35) [] rfl rfl rfl rfl rfl cb_7 rfl (fun H locs X => ?_)
  refine x_if_ne 44 41 C dX11_written_38 rfl rfl hf (fun hf => ?_) (fun hf => ?_)
  · refine x_aload_n 45 C dX11_written_44 hl 0 rfl rfl ?_
    refine x_aload_n 46 C dX11_written_45 hl 0 rfl rfl ?_
    refine x_get 49 C dX11_written_46 X kf_X11_20 0 rfl rfl rfl ?_
    refine x_iload_n 50 C dX11_written_49 hl 1 rfl rfl ?_
    refine x_iald 51 C dX11_written_50 X 4 rfl hf rfl (fun hf => ?_)
    refine x_i2l 52 C dX11_written_51 rfl ?_
    refine x_aload_n 53 C dX11_written_52 hl 0 rfl rfl ?_
    refine x_get 56 C dX11_written_53 X kf_X11_24 0 rfl rfl rfl ?_
    refine x_iload_n 57 C dX11_written_56 hl 1 rfl rfl ?_
    refine x_iald 58 C dX11_written_57 X 5 rfl hf rfl (fun hf => ?_)
    refine x_i2l 59 C dX11_written_58 rfl ?_
    obtain ⟨y59, hy59, hf⟩ := kx_bind hf
    refine x_callVv0 62 C dX11_written_59 X hl kl_X11_222 (c_X11_writes E.2.1 D T h N ((m_first (v1).toNatClampNeg)).toInt64 ((m_second (v1).toNatClampNeg)).toInt64 m_taped m_states m_ra m_rb m_threes m_primes m_ones m_unit m_allParts m_allNorms m_allClasses m_odd m_boxWide m_boxHigh m_boxStep m_partingMany m_qa m_qb m_la m_lb m_sa m_sb m_ta m_tb m_listed m_tells m_wanted m_found m_bits m_power2 m_rings m_ringA m_ringB m_seedNow m_tape m_has m_keptHas m_first m_second m_keptFirst m_keptSecond m_pa m_pb m_pNorm m_cubed m_isOpen m_signs m_often m_la0 m_lb0 y59 hy59) rfl rfl [] rfl rfl rfl rfl rfl rfl (fun H locs X => ?_)
    refine x_iload_n 63 C dX11_written_62 hl 2 rfl rfl ?_
    refine x_iconst 64 C dX11_written_63 (-1 : Int32) kv_iconst_m1 rfl ?_
    refine x_icmp_ne 95 67 C dX11_written_64 rfl rfl hf (fun hf => ?_) (fun hf => ?_)
    · refine x_iload_n 96 C dX11_written_95 hl 2 rfl rfl ?_
      refine x_aload_n 97 C dX11_written_96 hl 0 rfl rfl ?_
      refine x_get 100 C dX11_written_97 X kf_X11_201 0 rfl rfl rfl ?_
      refine x_icmp_lt 108 103 C dX11_written_100 rfl rfl hf (fun hf => ?_) (fun hf => ?_)
      · refine x_iload_n 109 C dX11_written_108 hl 3 rfl rfl ?_
        refine x_if_ne 121 112 C dX11_written_109 rfl rfl hf (fun hf => ?_) (fun hf => ?_)
        · refine x_iload_n 122 C dX11_written_121 hl 3 rfl rfl ?_
          refine x_iconst 123 C dX11_written_122 (1 : Int32) kv_iconst_1 rfl ?_
          refine x_icmp_ne 135 126 C dX11_written_123 rfl rfl hf (fun hf => ?_) (fun hf => ?_)
          · refine x_aload_n 136 C dX11_written_135 hl 0 rfl rfl ?_
            refine x_get 139 C dX11_written_136 X kf_X11_39 0 rfl rfl rfl ?_
            refine x_iload_n 140 C dX11_written_139 hl 2 rfl rfl ?_
            refine x_iald 141 C dX11_written_140 X 10 rfl hf rfl (fun hf => ?_)
            obtain rfl := Option.some.inj hf
            exact R _ _ _ _ X dX11_written_141
          refine x_aload_n 127 C dX11_written_126 hl 0 rfl rfl ?_
          refine x_get 130 C dX11_written_127 X kf_X11_36 0 rfl rfl rfl ?_
          refine x_iload_n 131 C dX11_written_130 hl 2 rfl rfl ?_
          refine x_iald 132 C dX11_written_131 X 9 rfl hf rfl (fun hf => ?_)
          refine x_goto 141 C dX11_written_132 rfl ?_
          obtain rfl := Option.some.inj hf
          exact R _ _ _ _ X dX11_written_141
        refine x_aload_n 113 C dX11_written_112 hl 0 rfl rfl ?_
        refine x_get 116 C dX11_written_113 X kf_X11_33 0 rfl rfl rfl ?_
        refine x_iload_n 117 C dX11_written_116 hl 2 rfl rfl ?_
        refine x_iald 118 C dX11_written_117 X 8 rfl hf rfl (fun hf => ?_)
        refine x_goto 141 C dX11_written_118 rfl ?_
        obtain rfl := Option.some.inj hf
        exact R _ _ _ _ X dX11_written_141
      refine x_ldc 105 C dX11_written_103 (-2147483648 : Int32) kc_X11_164 rfl ?_
      refine x_goto 141 C dX11_written_105 rfl ?_
      obtain rfl := Option.some.inj hf
      exact R _ _ _ _ X dX11_written_141
    refine x_iload_n 68 C dX11_written_67 hl 3 rfl rfl ?_
    refine x_if_ne 78 71 C dX11_written_68 rfl rfl hf (fun hf => ?_) (fun hf => ?_)
    · refine x_iload_n 79 C dX11_written_78 hl 3 rfl rfl ?_
      refine x_iconst 80 C dX11_written_79 (1 : Int32) kv_iconst_1 rfl ?_
      refine x_icmp_ne 90 83 C dX11_written_80 rfl rfl hf (fun hf => ?_) (fun hf => ?_)
      · refine x_aload_n 91 C dX11_written_90 hl 0 rfl rfl ?_
        refine x_get 94 C dX11_written_91 X kf_X11_214 0 rfl rfl rfl ?_
        obtain rfl := Option.some.inj hf
        exact R _ _ _ _ X dX11_written_94
      refine x_aload_n 84 C dX11_written_83 hl 0 rfl rfl ?_
      refine x_get 87 C dX11_written_84 X kf_X11_204 0 rfl rfl rfl ?_
      refine x_goto 94 C dX11_written_87 rfl ?_
      obtain rfl := Option.some.inj hf
      exact R _ _ _ _ X dX11_written_94
    refine x_aload_n 72 C dX11_written_71 hl 0 rfl rfl ?_
    refine x_get 75 C dX11_written_72 X kf_X11_201 0 rfl rfl rfl ?_
    refine x_goto 94 C dX11_written_75 rfl ?_
    obtain rfl := Option.some.inj hf
    exact R _ _ _ _ X dX11_written_94
  refine x_ldc 43 C dX11_written_41 (-2147483648 : Int32) kc_X11_164 rfl ?_
  obtain rfl := Option.some.inj hf
  exact R _ _ _ _ X dX11_written_43
set_option maxHeartbeats 4000000 in
set_option maxRecDepth 100000 in
theorem c_X2_normAt (l : Launch) (D : va_G) (T : KT) (h0 h1 h2 h3 h4 h5 h6 h7 : Nat) (v1 : Int32) (m_count m_threes m_unit : Int32) (m_norms : Nat → Int64) (x : Int64) (hf : f_X2_normAt v1 m_threes m_norms = some x) : kx_ML l yX2_normAt cX2_normAt 3 (some .long) 0 0 D T [.ref h0, .int v1] (w33_X2 T h0 h1 h2 h3 h4 h5 h6 h7 m_count m_threes m_unit m_norms) (w33_X2 T h0 h1 h2 h3 h4 h5 h6 h7 m_count m_threes m_unit m_norms) x := by
  refine kx_ofML RX2 rfl (plainFor_of_name (x := yX2_normAt) kpn_X2) rfl ?_
  intro E A H ls _ C X R hl
  have hl : lv_has ls 3 [(0, .ref h0), (1, .int v1)] := hl
  rw [f_X2_normAt] at hf
  refine x_iload_n 1 C dX2_normAt_0 hl 1 rfl rfl ?_
  refine x_aload_n 2 C dX2_normAt_1 hl 0 rfl rfl ?_
  refine x_get 5 C dX2_normAt_2 X kf_X2_54 0 rfl rfl rfl ?_
  refine x_isub 6 C dX2_normAt_5 rfl ?_
  refine x_istore_n 7 C dX2_normAt_6 [(2, .int (v1 - m_threes)), (0, .ref h0), (1, .int v1)] hl rfl rfl rfl (fun ls hl => ?_)
  refine x_iload_n 8 C dX2_normAt_7 hl 0 rfl rfl ?_
  refine x_if_lt 26 11 C dX2_normAt_8 rfl rfl hf (fun hf => ?_) (fun hf => ?_)
  · refine x_ldc2_w 29 C dX2_normAt_26 (3 : Int64) kc_X2_91 rfl ?_
    obtain rfl := Option.some.inj hf
    exact R _ _ _ _ X dX2_normAt_29
  refine x_iload_n 12 C dX2_normAt_11 hl 0 rfl rfl ?_
  refine x_bipush 14 C dX2_normAt_12 (32 : Int32) kv_bipush_32 rfl ?_
  refine x_icmp_ge 26 17 C dX2_normAt_14 rfl rfl hf (fun hf => ?_) (fun hf => ?_)
  · refine x_ldc2_w 29 C dX2_normAt_26 (3 : Int64) kc_X2_91 rfl ?_
    obtain rfl := Option.some.inj hf
    exact R _ _ _ _ X dX2_normAt_29
  refine x_aload_n 18 C dX2_normAt_17 hl 1 rfl rfl ?_
  refine x_get 21 C dX2_normAt_18 X kf_X2_16 0 rfl rfl rfl ?_
  refine x_iload_n 22 C dX2_normAt_21 hl 0 rfl rfl ?_
  refine x_lald 23 C dX2_normAt_22 X 1 rfl hf rfl (fun hf => ?_)
  refine x_goto 29 C dX2_normAt_23 rfl ?_
  obtain rfl := Option.some.inj hf
  exact R _ _ _ _ X dX2_normAt_29
set_option maxHeartbeats 4000000 in
set_option maxRecDepth 100000 in
theorem c_X2_isRepeated (l : Launch) (D : va_G) (T : KT) (h0 h1 h2 h3 h4 h5 h6 h7 : Nat) (v1 : Int32) (m_count m_threes m_unit : Int32) (m_primeA m_primeB : Nat → Int64) (x : Int32) (hf : f_X2_isRepeated v1 m_threes m_primeA m_primeB = some x) : kx_MI l yX2_isRepeated cX2_isRepeated 3 (some .boolean) 0 0 D T [.ref h0, .int v1] (w32_X2 T h0 h1 h2 h3 h4 h5 h6 h7 m_count m_threes m_unit m_primeA m_primeB) (w32_X2 T h0 h1 h2 h3 h4 h5 h6 h7 m_count m_threes m_unit m_primeA m_primeB) x := by
  refine kx_ofMZ RX2 rfl (plainFor_of_name (x := yX2_isRepeated) kpn_X2) rfl ?_
  intro E A H ls _ C X R hl
  have hl : lv_has ls 3 [(0, .ref h0), (1, .int v1)] := hl
  rw [f_X2_isRepeated] at hf
  refine x_iload_n 1 C dX2_isRepeated_0 hl 1 rfl rfl ?_
  refine x_aload_n 2 C dX2_isRepeated_1 hl 0 rfl rfl ?_
  refine x_get 5 C dX2_isRepeated_2 X kf_X2_54 0 rfl rfl rfl ?_
  refine x_isub 6 C dX2_isRepeated_5 rfl ?_
  refine x_istore_n 7 C dX2_isRepeated_6 [(2, .int (v1 - m_threes)), (0, .ref h0), (1, .int v1)] hl rfl rfl rfl (fun ls hl => ?_)
  refine x_iload_n 8 C dX2_isRepeated_7 hl 0 rfl rfl ?_
  refine x_if_ge 21 11 C dX2_isRepeated_8 rfl rfl hf (fun hf => ?_) (fun hf => ?_)
  · refine x_iload_n 22 C dX2_isRepeated_21 hl 0 rfl rfl ?_
    refine x_if_le 71 25 C dX2_isRepeated_22 rfl rfl hf (fun hf => ?_) (fun hf => ?_)
    · refine x_iconst 72 C dX2_isRepeated_71 (0 : Int32) kv_iconst_0 rfl ?_
      obtain rfl := Option.some.inj hf
      exact R _ _ _ _ X kb_0 dX2_isRepeated_72
    refine x_iload_n 26 C dX2_isRepeated_25 hl 0 rfl rfl ?_
    refine x_bipush 28 C dX2_isRepeated_26 (32 : Int32) kv_bipush_32 rfl ?_
    refine x_icmp_ge 71 31 C dX2_isRepeated_28 rfl rfl hf (fun hf => ?_) (fun hf => ?_)
    · refine x_iconst 72 C dX2_isRepeated_71 (0 : Int32) kv_iconst_0 rfl ?_
      obtain rfl := Option.some.inj hf
      exact R _ _ _ _ X kb_0 dX2_isRepeated_72
    refine x_aload_n 32 C dX2_isRepeated_31 hl 1 rfl rfl ?_
    refine x_get 35 C dX2_isRepeated_32 X kf_X2_9 0 rfl rfl rfl ?_
    refine x_iload_n 36 C dX2_isRepeated_35 hl 0 rfl rfl ?_
    refine x_lald 37 C dX2_isRepeated_36 X 1 rfl hf rfl (fun hf => ?_)
    refine x_aload_n 38 C dX2_isRepeated_37 hl 1 rfl rfl ?_
    refine x_get 41 C dX2_isRepeated_38 X kf_X2_9 0 rfl rfl rfl ?_
    refine x_iload_n 42 C dX2_isRepeated_41 hl 0 rfl rfl ?_
    refine x_iconst 43 C dX2_isRepeated_42 (1 : Int32) kv_iconst_1 rfl ?_
    refine x_isub 44 C dX2_isRepeated_43 rfl ?_
    refine x_lald 45 C dX2_isRepeated_44 X 1 rfl hf rfl (fun hf => ?_)
    refine x_lcmp_ne 71 46 49 C dX2_isRepeated_45 dX2_isRepeated_46 rfl rfl rfl hf (fun hf => ?_) (fun hf => ?_)
    · refine x_iconst 72 C dX2_isRepeated_71 (0 : Int32) kv_iconst_0 rfl ?_
      obtain rfl := Option.some.inj hf
      exact R _ _ _ _ X kb_0 dX2_isRepeated_72
    refine x_aload_n 50 C dX2_isRepeated_49 hl 1 rfl rfl ?_
    refine x_get 53 C dX2_isRepeated_50 X kf_X2_13 0 rfl rfl rfl ?_
    refine x_iload_n 54 C dX2_isRepeated_53 hl 0 rfl rfl ?_
    refine x_lald 55 C dX2_isRepeated_54 X 2 rfl hf rfl (fun hf => ?_)
    refine x_aload_n 56 C dX2_isRepeated_55 hl 1 rfl rfl ?_
    refine x_get 59 C dX2_isRepeated_56 X kf_X2_13 0 rfl rfl rfl ?_
    refine x_iload_n 60 C dX2_isRepeated_59 hl 0 rfl rfl ?_
    refine x_iconst 61 C dX2_isRepeated_60 (1 : Int32) kv_iconst_1 rfl ?_
    refine x_isub 62 C dX2_isRepeated_61 rfl ?_
    refine x_lald 63 C dX2_isRepeated_62 X 2 rfl hf rfl (fun hf => ?_)
    refine x_lcmp_ne 71 64 67 C dX2_isRepeated_63 dX2_isRepeated_64 rfl rfl rfl hf (fun hf => ?_) (fun hf => ?_)
    · refine x_iconst 72 C dX2_isRepeated_71 (0 : Int32) kv_iconst_0 rfl ?_
      obtain rfl := Option.some.inj hf
      exact R _ _ _ _ X kb_0 dX2_isRepeated_72
    refine x_iconst 68 C dX2_isRepeated_67 (1 : Int32) kv_iconst_1 rfl ?_
    refine x_goto 72 C dX2_isRepeated_68 rfl ?_
    obtain rfl := Option.some.inj hf
    exact R _ _ _ _ X kb_1 dX2_isRepeated_72
  refine x_iload_n 12 C dX2_isRepeated_11 hl 2 rfl rfl ?_
  refine x_if_le 19 15 C dX2_isRepeated_12 rfl rfl hf (fun hf => ?_) (fun hf => ?_)
  · refine x_iconst 20 C dX2_isRepeated_19 (0 : Int32) kv_iconst_0 rfl ?_
    obtain rfl := Option.some.inj hf
    exact R _ _ _ _ X kb_0 dX2_isRepeated_20
  refine x_iconst 16 C dX2_isRepeated_15 (1 : Int32) kv_iconst_1 rfl ?_
  refine x_goto 20 C dX2_isRepeated_16 rfl ?_
  obtain rfl := Option.some.inj hf
  exact R _ _ _ _ X kb_1 dX2_isRepeated_20
set_option maxHeartbeats 4000000 in
set_option maxRecDepth 100000 in
theorem w_X2_divisorSum_40 {E : KE} {A : Nat → Prop} {D : va_G} {T : KT} (h0 h1 h2 h3 h4 h5 h6 h7 : Nat) (C : kx_C E cX2_divisorSum 9 (some .long) RX2 1 22 D T) (N : Nat) (x : Int64) (m_count m_threes m_unit : Int32) (m_primeA m_primeB m_norms : Nat → Int64) (R : kx_RL E cX2_divisorSum D A (w31_X2 T h0 h1 h2 h3 h4 h5 h6 h7 m_count m_threes m_unit m_primeA m_primeB m_norms) x) (k11 : Int32 → Int64 → Int64 → Int64 → Int32 → Int32 → Int32 → (Nat → Int64) → (Nat → Int64) → (Nat → Int64) → Option (Int64)) (hk11 : ∀  (v1 : Int32) (v2 v4 v6 : Int64) (v8 : Int32) (H : Heap) (locs : List Loc) (ls : Array Slot), kx_H E D A H locs (w31_X2 T h0 h1 h2 h3 h4 h5 h6 h7 m_count m_threes m_unit m_primeA m_primeB m_norms) → lv_has ls 9 [(0, .ref h0), (1, .int v1), (2, .long v2), (4, .long v4), (6, .long v6), (8, .int v8)] → k11 v1 v2 v4 v6 v8 m_count m_threes m_primeA m_primeB m_norms = some x → kx_W E H locs 11 ls []) : ∀  (v1 : Int32) (v2 v4 v6 : Int64) (v8 : Int32) (H : Heap) (locs : List Loc) (ls : Array Slot), kx_H E D A H locs (w31_X2 T h0 h1 h2 h3 h4 h5 h6 h7 m_count m_threes m_unit m_primeA m_primeB m_norms) → lv_has ls 9 [(0, .ref h0), (1, .int v1), (2, .long v2), (4, .long v4), (6, .long v6), (8, .int v8)] → f_X2_divisorSum_40 N k11 v1 v2 v4 v6 v8 m_count m_threes m_primeA m_primeB m_norms = some x → kx_W E H locs 40 ls [] := by
  intro v1 v2 v4 v6 v8 H locs ls X hl hf
  rw [f_X2_divisorSum_40] at hf
  refine x_lload 42 C dX2_divisorSum_40 hl 4 rfl rfl ?_
  refine x_aload_n 43 C dX2_divisorSum_42 hl 0 rfl rfl ?_
  refine x_iload 45 C dX2_divisorSum_43 hl 5 rfl rfl ?_
  obtain ⟨y45, hy45, hf⟩ := kx_bind hf
  refine x_callVl 48 C dX2_divisorSum_45 X hl kl_X2_155 (c_X2_normAt E.2.1 D T h0 h1 h2 h3 h4 h5 h6 h7 v8 m_count m_threes m_unit m_norms y45 hy45) rfl rfl [.long v6] rfl rfl rfl rfl rfl cb_78 rfl (fun H locs X => ?_)
  refine x_lmul 49 C dX2_divisorSum_48 rfl ?_
  refine x_lstore 51 C dX2_divisorSum_49 [(6, .long (v6 * y45)), (0, .ref h0), (1, .int v1), (2, .long v2), (4, .long v4), (8, .int v8)] hl rfl rfl rfl (fun ls hl => ?_)
  refine x_lload 53 C dX2_divisorSum_51 hl 4 rfl rfl ?_
  refine x_iload_n 54 C dX2_divisorSum_53 hl 2 rfl rfl ?_
  refine x_if_eq 62 57 C dX2_divisorSum_54 rfl rfl hf (fun hf => ?_) (fun hf => ?_)
  · refine x_lconst 63 C dX2_divisorSum_62 (1 : Int64) kv_lconst_1 rfl ?_
    refine x_ladd 64 C dX2_divisorSum_63 rfl ?_
    refine x_lstore 66 C dX2_divisorSum_64 [(4, .long (v4 + (1 : Int64))), (6, .long (v6 * y45)), (0, .ref h0), (1, .int v1), (2, .long v2), (8, .int v8)] hl rfl rfl rfl (fun ls hl => ?_)
    refine x_iinc 69 C dX2_divisorSum_66 (1 : Int32) kv_iconst_1 [(8, .int (v8 + (1 : Int32))), (4, .long (v4 + (1 : Int64))), (6, .long (v6 * y45)), (0, .ref h0), (1, .int v1), (2, .long v2)] hl 5 rfl rfl rfl rfl (fun ls hl => ?_)
    refine x_goto 11 C dX2_divisorSum_69 rfl ?_
    exact hk11 v1 v2 (v4 + (1 : Int64)) (v6 * y45) (v8 + (1 : Int32)) _ _ _ X (lv_sub hl [3, 4, 5, 1, 2, 0] rfl) hf
  refine x_lload 59 C dX2_divisorSum_57 hl 0 rfl rfl ?_
  refine x_goto 63 C dX2_divisorSum_59 rfl ?_
  refine x_ladd 64 C dX2_divisorSum_63 rfl ?_
  refine x_lstore 66 C dX2_divisorSum_64 [(4, .long (v4 + (v6 * y45))), (6, .long (v6 * y45)), (0, .ref h0), (1, .int v1), (2, .long v2), (8, .int v8)] hl rfl rfl rfl (fun ls hl => ?_)
  refine x_iinc 69 C dX2_divisorSum_66 (1 : Int32) kv_iconst_1 [(8, .int (v8 + (1 : Int32))), (4, .long (v4 + (v6 * y45))), (6, .long (v6 * y45)), (0, .ref h0), (1, .int v1), (2, .long v2)] hl 5 rfl rfl rfl rfl (fun ls hl => ?_)
  refine x_goto 11 C dX2_divisorSum_69 rfl ?_
  exact hk11 v1 v2 (v4 + (v6 * y45)) (v6 * y45) (v8 + (1 : Int32)) _ _ _ X (lv_sub hl [3, 4, 5, 1, 2, 0] rfl) hf
set_option maxHeartbeats 4000000 in
set_option maxRecDepth 100000 in
theorem w_X2_divisorSum_11 {E : KE} {A : Nat → Prop} {D : va_G} {T : KT} (h0 h1 h2 h3 h4 h5 h6 h7 : Nat) (C : kx_C E cX2_divisorSum 9 (some .long) RX2 1 22 D T) (N : Nat) (x : Int64) (m_count m_threes m_unit : Int32) (m_primeA m_primeB m_norms : Nat → Int64) (R : kx_RL E cX2_divisorSum D A (w31_X2 T h0 h1 h2 h3 h4 h5 h6 h7 m_count m_threes m_unit m_primeA m_primeB m_norms) x) : ∀ (k : Nat), ∀  (v1 : Int32) (v2 v4 v6 : Int64) (v8 : Int32) (H : Heap) (locs : List Loc) (ls : Array Slot), kx_H E D A H locs (w31_X2 T h0 h1 h2 h3 h4 h5 h6 h7 m_count m_threes m_unit m_primeA m_primeB m_norms) → lv_has ls 9 [(0, .ref h0), (1, .int v1), (2, .long v2), (4, .long v4), (6, .long v6), (8, .int v8)] → f_X2_divisorSum_11 N k v1 v2 v4 v6 v8 m_count m_threes m_primeA m_primeB m_norms = some x → kx_W E H locs 11 ls [] := by
  intro k
  induction k with
  | zero =>
    intro v1 v2 v4 v6 v8 H locs ls X hl hf
    cases (show (none : Option (Int64)) = some x from hf)
  | succ k ih =>
    intro v1 v2 v4 v6 v8 H locs ls X hl hf
    rw [f_X2_divisorSum_11] at hf
    refine x_iload 13 C dX2_divisorSum_11 hl 5 rfl rfl ?_
    refine x_aload_n 14 C dX2_divisorSum_13 hl 0 rfl rfl ?_
    obtain ⟨y14, hy14, hf⟩ := kx_bind hf
    refine x_callVi 17 C dX2_divisorSum_14 X hl kl_X2_148 (c_X2_total E.2.1 D T h0 h1 h2 h3 h4 h5 h6 h7  m_count m_threes m_unit y14 hy14) rfl rfl [.int v8] rfl rfl rfl rfl rfl cb_79 rfl (fun H locs X => ?_)
    refine x_icmp_ge 72 20 C dX2_divisorSum_17 rfl rfl hf (fun hf => ?_) (fun hf => ?_)
    · refine x_lload_n 73 C dX2_divisorSum_72 hl 2 rfl rfl ?_
      refine x_lload 75 C dX2_divisorSum_73 hl 3 rfl rfl ?_
      refine x_lmul 76 C dX2_divisorSum_75 rfl ?_
      obtain rfl := Option.some.inj hf
      exact R _ _ _ _ X dX2_divisorSum_76
    refine x_aload_n 21 C dX2_divisorSum_20 hl 0 rfl rfl ?_
    refine x_iload 23 C dX2_divisorSum_21 hl 5 rfl rfl ?_
    obtain ⟨y23, hy23, hf⟩ := kx_bind hf
    refine x_callVi 26 C dX2_divisorSum_23 X hl kl_X2_151 (c_X2_isRepeated E.2.1 D T h0 h1 h2 h3 h4 h5 h6 h7 v8 m_count m_threes m_unit m_primeA m_primeB y23 hy23) rfl rfl [] rfl rfl rfl rfl rfl cb_80 rfl (fun H locs X => ?_)
    refine x_if_ne 40 29 C dX2_divisorSum_26 rfl rfl hf (fun hf => ?_) (fun hf => ?_)
    · exact w_X2_divisorSum_40 h0 h1 h2 h3 h4 h5 h6 h7 C N x m_count m_threes m_unit m_primeA m_primeB m_norms R (f_X2_divisorSum_11 N k) ih v1 v2 v4 v6 v8 _ _ _ X (lv_sub hl [0, 1, 2, 3, 4, 5] rfl) hf
    refine x_lload_n 30 C dX2_divisorSum_29 hl 2 rfl rfl ?_
    refine x_lload 32 C dX2_divisorSum_30 hl 3 rfl rfl ?_
    refine x_lmul 33 C dX2_divisorSum_32 rfl ?_
    refine x_lstore_n 34 C dX2_divisorSum_33 [(2, .long (v2 * v4)), (0, .ref h0), (1, .int v1), (4, .long v4), (6, .long v6), (8, .int v8)] hl rfl rfl rfl (fun ls hl => ?_)
    refine x_lconst 35 C dX2_divisorSum_34 (1 : Int64) kv_lconst_1 rfl ?_
    refine x_lstore 37 C dX2_divisorSum_35 [(4, .long (1 : Int64)), (2, .long (v2 * v4)), (0, .ref h0), (1, .int v1), (6, .long v6), (8, .int v8)] hl rfl rfl rfl (fun ls hl => ?_)
    refine x_lconst 38 C dX2_divisorSum_37 (1 : Int64) kv_lconst_1 rfl ?_
    refine x_lstore 40 C dX2_divisorSum_38 [(6, .long (1 : Int64)), (4, .long (1 : Int64)), (2, .long (v2 * v4)), (0, .ref h0), (1, .int v1), (8, .int v8)] hl rfl rfl rfl (fun ls hl => ?_)
    exact w_X2_divisorSum_40 h0 h1 h2 h3 h4 h5 h6 h7 C N x m_count m_threes m_unit m_primeA m_primeB m_norms R (f_X2_divisorSum_11 N k) ih v1 (v2 * v4) (1 : Int64) (1 : Int64) v8 _ _ _ X (lv_sub hl [3, 4, 2, 1, 0, 5] rfl) hf
set_option maxHeartbeats 4000000 in
set_option maxRecDepth 100000 in
theorem c_X2_divisorSum (l : Launch) (D : va_G) (T : KT) (h0 h1 h2 h3 h4 h5 h6 h7 : Nat) (N : Nat) (v1 : Int32) (m_count m_threes m_unit : Int32) (m_primeA m_primeB m_norms : Nat → Int64) (x : Int64) (hf : f_X2_divisorSum N v1 m_count m_threes m_primeA m_primeB m_norms = some x) : kx_ML l yX2_divisorSum cX2_divisorSum 9 (some .long) 1 22 D T [.ref h0, .int v1] (w31_X2 T h0 h1 h2 h3 h4 h5 h6 h7 m_count m_threes m_unit m_primeA m_primeB m_norms) (w31_X2 T h0 h1 h2 h3 h4 h5 h6 h7 m_count m_threes m_unit m_primeA m_primeB m_norms) x := by
  refine kx_ofML RX2 rfl (plainFor_of_name (x := yX2_divisorSum) kpn_X2) rfl ?_
  intro E A H ls _ C X R hl
  have hl : lv_has ls 9 [(0, .ref h0), (1, .int v1)] := hl
  rw [f_X2_divisorSum] at hf
  refine x_lconst 1 C dX2_divisorSum_0 (1 : Int64) kv_lconst_1 rfl ?_
  refine x_lstore_n 2 C dX2_divisorSum_1 [(2, .long (1 : Int64)), (0, .ref h0), (1, .int v1)] hl rfl rfl rfl (fun ls hl => ?_)
  refine x_lconst 3 C dX2_divisorSum_2 (1 : Int64) kv_lconst_1 rfl ?_
  refine x_lstore 5 C dX2_divisorSum_3 [(4, .long (1 : Int64)), (2, .long (1 : Int64)), (0, .ref h0), (1, .int v1)] hl rfl rfl rfl (fun ls hl => ?_)
  refine x_lconst 6 C dX2_divisorSum_5 (1 : Int64) kv_lconst_1 rfl ?_
  refine x_lstore 8 C dX2_divisorSum_6 [(6, .long (1 : Int64)), (4, .long (1 : Int64)), (2, .long (1 : Int64)), (0, .ref h0), (1, .int v1)] hl rfl rfl rfl (fun ls hl => ?_)
  refine x_iconst 9 C dX2_divisorSum_8 (0 : Int32) kv_iconst_0 rfl ?_
  refine x_istore 11 C dX2_divisorSum_9 [(8, .int (0 : Int32)), (6, .long (1 : Int64)), (4, .long (1 : Int64)), (2, .long (1 : Int64)), (0, .ref h0), (1, .int v1)] hl rfl rfl rfl (fun ls hl => ?_)
  exact w_X2_divisorSum_11 h0 h1 h2 h3 h4 h5 h6 h7 C N x m_count m_threes m_unit m_primeA m_primeB m_norms R  N v1 (1 : Int64) (1 : Int64) (1 : Int64) (0 : Int32) _ _ _ X (lv_sub hl [4, 5, 3, 2, 1, 0] rfl) hf
set_option maxHeartbeats 4000000 in
set_option maxRecDepth 100000 in
theorem w_X2_primeClasses_4 {E : KE} {A : Nat → Prop} {D : va_G} {T : KT} (h0 h1 h2 h3 h4 h5 h6 h7 : Nat) (C : kx_C E cX2_primeClasses 4 (some .long) RX2 1 22 D T) (N : Nat) (x : Int64) (m_count m_threes m_unit : Int32) (m_primeA m_primeB m_norms : Nat → Int64) (R : kx_RL E cX2_primeClasses D A (w31_X2 T h0 h1 h2 h3 h4 h5 h6 h7 m_count m_threes m_unit m_primeA m_primeB m_norms) x) : ∀ (k : Nat), ∀  (v1 : Int64) (v3 : Int32) (H : Heap) (locs : List Loc) (ls : Array Slot), kx_H E D A H locs (w31_X2 T h0 h1 h2 h3 h4 h5 h6 h7 m_count m_threes m_unit m_primeA m_primeB m_norms) → lv_has ls 4 [(0, .ref h0), (1, .long v1), (3, .int v3)] → f_X2_primeClasses_4 N k v1 v3 m_count m_threes m_primeA m_primeB m_norms = some x → kx_W E H locs 4 ls [] := by
  intro k
  induction k with
  | zero =>
    intro v1 v3 H locs ls X hl hf
    cases (show (none : Option (Int64)) = some x from hf)
  | succ k ih =>
    intro v1 v3 H locs ls X hl hf
    rw [f_X2_primeClasses_4] at hf
    refine x_iload_n 5 C dX2_primeClasses_4 hl 2 rfl rfl ?_
    refine x_aload_n 6 C dX2_primeClasses_5 hl 0 rfl rfl ?_
    obtain ⟨y6, hy6, hf⟩ := kx_bind hf
    refine x_callVi 9 C dX2_primeClasses_6 X hl kl_X2_148 (c_X2_total E.2.1 D T h0 h1 h2 h3 h4 h5 h6 h7  m_count m_threes m_unit y6 hy6) rfl rfl [.int v3] rfl rfl rfl rfl rfl cb_79 rfl (fun H locs X => ?_)
    refine x_icmp_ge 44 12 C dX2_primeClasses_9 rfl rfl hf (fun hf => ?_) (fun hf => ?_)
    · refine x_lload_n 45 C dX2_primeClasses_44 hl 1 rfl rfl ?_
      obtain rfl := Option.some.inj hf
      exact R _ _ _ _ X dX2_primeClasses_45
    refine x_lload_n 13 C dX2_primeClasses_12 hl 1 rfl rfl ?_
    refine x_aload_n 14 C dX2_primeClasses_13 hl 0 rfl rfl ?_
    refine x_iload_n 15 C dX2_primeClasses_14 hl 2 rfl rfl ?_
    obtain ⟨y15, hy15, hf⟩ := kx_bind hf
    refine x_callVi 18 C dX2_primeClasses_15 X hl kl_X2_151 (c_X2_isRepeated E.2.1 D T h0 h1 h2 h3 h4 h5 h6 h7 v3 m_count m_threes m_unit m_primeA m_primeB y15 hy15) rfl rfl [.long v1] rfl rfl rfl rfl rfl cb_80 rfl (fun H locs X => ?_)
    refine x_if_eq 29 21 C dX2_primeClasses_18 rfl rfl hf (fun hf => ?_) (fun hf => ?_)
    · refine x_aload_n 30 C dX2_primeClasses_29 hl 0 rfl rfl ?_
      refine x_iload_n 31 C dX2_primeClasses_30 hl 2 rfl rfl ?_
      obtain ⟨y31, hy31, hf⟩ := kx_bind hf
      refine x_callVl 34 C dX2_primeClasses_31 X hl kl_X2_155 (c_X2_normAt E.2.1 D T h0 h1 h2 h3 h4 h5 h6 h7 v3 m_count m_threes m_unit m_norms y31 hy31) rfl rfl [.long v1] rfl rfl rfl rfl rfl cb_78 rfl (fun H locs X => ?_)
      refine x_lconst 35 C dX2_primeClasses_34 (1 : Int64) kv_lconst_1 rfl ?_
      refine x_lsub 36 C dX2_primeClasses_35 rfl ?_
      refine x_lmul 37 C dX2_primeClasses_36 rfl ?_
      refine x_lstore_n 38 C dX2_primeClasses_37 [(1, .long (v1 * (y31 - (1 : Int64)))), (0, .ref h0), (3, .int v3)] hl rfl rfl rfl (fun ls hl => ?_)
      refine x_iinc 41 C dX2_primeClasses_38 (1 : Int32) kv_iconst_1 [(3, .int (v3 + (1 : Int32))), (1, .long (v1 * (y31 - (1 : Int64)))), (0, .ref h0)] hl 2 rfl rfl rfl rfl (fun ls hl => ?_)
      refine x_goto 4 C dX2_primeClasses_41 rfl ?_
      exact ih (v1 * (y31 - (1 : Int64))) (v3 + (1 : Int32)) _ _ _ X (lv_sub hl [2, 1, 0] rfl) hf
    refine x_aload_n 22 C dX2_primeClasses_21 hl 0 rfl rfl ?_
    refine x_iload_n 23 C dX2_primeClasses_22 hl 2 rfl rfl ?_
    obtain ⟨y23, hy23, hf⟩ := kx_bind hf
    refine x_callVl 26 C dX2_primeClasses_23 X hl kl_X2_155 (c_X2_normAt E.2.1 D T h0 h1 h2 h3 h4 h5 h6 h7 v3 m_count m_threes m_unit m_norms y23 hy23) rfl rfl [.long v1] rfl rfl rfl rfl rfl cb_78 rfl (fun H locs X => ?_)
    refine x_goto 36 C dX2_primeClasses_26 rfl ?_
    refine x_lmul 37 C dX2_primeClasses_36 rfl ?_
    refine x_lstore_n 38 C dX2_primeClasses_37 [(1, .long (v1 * y23)), (0, .ref h0), (3, .int v3)] hl rfl rfl rfl (fun ls hl => ?_)
    refine x_iinc 41 C dX2_primeClasses_38 (1 : Int32) kv_iconst_1 [(3, .int (v3 + (1 : Int32))), (1, .long (v1 * y23)), (0, .ref h0)] hl 2 rfl rfl rfl rfl (fun ls hl => ?_)
    refine x_goto 4 C dX2_primeClasses_41 rfl ?_
    exact ih (v1 * y23) (v3 + (1 : Int32)) _ _ _ X (lv_sub hl [2, 1, 0] rfl) hf
set_option maxHeartbeats 4000000 in
set_option maxRecDepth 100000 in
theorem c_X2_primeClasses (l : Launch) (D : va_G) (T : KT) (h0 h1 h2 h3 h4 h5 h6 h7 : Nat) (N : Nat)  (m_count m_threes m_unit : Int32) (m_primeA m_primeB m_norms : Nat → Int64) (x : Int64) (hf : f_X2_primeClasses N m_count m_threes m_primeA m_primeB m_norms = some x) : kx_ML l yX2_primeClasses cX2_primeClasses 4 (some .long) 1 22 D T [.ref h0] (w31_X2 T h0 h1 h2 h3 h4 h5 h6 h7 m_count m_threes m_unit m_primeA m_primeB m_norms) (w31_X2 T h0 h1 h2 h3 h4 h5 h6 h7 m_count m_threes m_unit m_primeA m_primeB m_norms) x := by
  refine kx_ofML RX2 rfl (plainFor_of_name (x := yX2_primeClasses) kpn_X2) rfl ?_
  intro E A H ls _ C X R hl
  have hl : lv_has ls 4 [(0, .ref h0)] := hl
  rw [f_X2_primeClasses] at hf
  refine x_lconst 1 C dX2_primeClasses_0 (1 : Int64) kv_lconst_1 rfl ?_
  refine x_lstore_n 2 C dX2_primeClasses_1 [(1, .long (1 : Int64)), (0, .ref h0)] hl rfl rfl rfl (fun ls hl => ?_)
  refine x_iconst 3 C dX2_primeClasses_2 (0 : Int32) kv_iconst_0 rfl ?_
  refine x_istore_n 4 C dX2_primeClasses_3 [(3, .int (0 : Int32)), (1, .long (1 : Int64)), (0, .ref h0)] hl rfl rfl rfl (fun ls hl => ?_)
  exact w_X2_primeClasses_4 h0 h1 h2 h3 h4 h5 h6 h7 C N x m_count m_threes m_unit m_primeA m_primeB m_norms R  N (1 : Int64) (0 : Int32) _ _ _ X (lv_sub hl [2, 1, 0] rfl) hf
set_option maxHeartbeats 4000000 in
set_option maxRecDepth 100000 in
theorem w_X2_squarefreeSign_4 {E : KE} {A : Nat → Prop} {D : va_G} {T : KT} (h0 h1 h2 h3 h4 h5 h6 h7 : Nat) (C : kx_C E cX2_squarefreeSign 3 (some .int) RX2 1 22 D T) (N : Nat) (x : Int32) (m_count m_threes m_unit : Int32) (m_primeA m_primeB : Nat → Int64) (R : kx_RI E cX2_squarefreeSign D A (w32_X2 T h0 h1 h2 h3 h4 h5 h6 h7 m_count m_threes m_unit m_primeA m_primeB) x) : ∀ (k : Nat), ∀  (v1 v2 : Int32) (H : Heap) (locs : List Loc) (ls : Array Slot), kx_H E D A H locs (w32_X2 T h0 h1 h2 h3 h4 h5 h6 h7 m_count m_threes m_unit m_primeA m_primeB) → lv_has ls 3 [(0, .ref h0), (1, .int v1), (2, .int v2)] → f_X2_squarefreeSign_4 N k v1 v2 m_count m_threes m_primeA m_primeB = some x → kx_W E H locs 4 ls [] := by
  intro k
  induction k with
  | zero =>
    intro v1 v2 H locs ls X hl hf
    cases (show (none : Option (Int32)) = some x from hf)
  | succ k ih =>
    intro v1 v2 H locs ls X hl hf
    rw [f_X2_squarefreeSign_4] at hf
    refine x_iload_n 5 C dX2_squarefreeSign_4 hl 2 rfl rfl ?_
    refine x_aload_n 6 C dX2_squarefreeSign_5 hl 0 rfl rfl ?_
    obtain ⟨y6, hy6, hf⟩ := kx_bind hf
    refine x_callVi 9 C dX2_squarefreeSign_6 X hl kl_X2_148 (c_X2_total E.2.1 D T h0 h1 h2 h3 h4 h5 h6 h7  m_count m_threes m_unit y6 hy6) rfl rfl [.int v2] rfl rfl rfl rfl rfl cb_81 rfl (fun H locs X => ?_)
    refine x_icmp_ge 33 12 C dX2_squarefreeSign_9 rfl rfl hf (fun hf => ?_) (fun hf => ?_)
    · refine x_iload_n 34 C dX2_squarefreeSign_33 hl 1 rfl rfl ?_
      obtain rfl := Option.some.inj hf
      exact R _ _ _ _ X dX2_squarefreeSign_34
    refine x_aload_n 13 C dX2_squarefreeSign_12 hl 0 rfl rfl ?_
    refine x_iload_n 14 C dX2_squarefreeSign_13 hl 2 rfl rfl ?_
    obtain ⟨y14, hy14, hf⟩ := kx_bind hf
    refine x_callVi0 17 C dX2_squarefreeSign_14 X hl kl_X2_151 (c_X2_isRepeated E.2.1 D T h0 h1 h2 h3 h4 h5 h6 h7 v2 m_count m_threes m_unit m_primeA m_primeB y14 hy14) rfl rfl [] rfl rfl rfl rfl rfl rfl (fun H locs X => ?_)
    refine x_if_eq 24 20 C dX2_squarefreeSign_17 rfl rfl hf (fun hf => ?_) (fun hf => ?_)
    · refine x_iload_n 25 C dX2_squarefreeSign_24 hl 1 rfl rfl ?_
      refine x_ineg 26 C dX2_squarefreeSign_25 rfl ?_
      refine x_istore_n 27 C dX2_squarefreeSign_26 [(1, .int (-v1)), (0, .ref h0), (2, .int v2)] hl rfl rfl rfl (fun ls hl => ?_)
      refine x_iinc 30 C dX2_squarefreeSign_27 (1 : Int32) kv_iconst_1 [(2, .int (v2 + (1 : Int32))), (1, .int (-v1)), (0, .ref h0)] hl 2 rfl rfl rfl rfl (fun ls hl => ?_)
      refine x_goto 4 C dX2_squarefreeSign_30 rfl ?_
      exact ih (-v1) (v2 + (1 : Int32)) _ _ _ X (lv_sub hl [2, 1, 0] rfl) hf
    refine x_iconst 21 C dX2_squarefreeSign_20 (0 : Int32) kv_iconst_0 rfl ?_
    refine x_goto 26 C dX2_squarefreeSign_21 rfl ?_
    refine x_istore_n 27 C dX2_squarefreeSign_26 [(1, .int (0 : Int32)), (0, .ref h0), (2, .int v2)] hl rfl rfl rfl (fun ls hl => ?_)
    refine x_iinc 30 C dX2_squarefreeSign_27 (1 : Int32) kv_iconst_1 [(2, .int (v2 + (1 : Int32))), (1, .int (0 : Int32)), (0, .ref h0)] hl 2 rfl rfl rfl rfl (fun ls hl => ?_)
    refine x_goto 4 C dX2_squarefreeSign_30 rfl ?_
    exact ih (0 : Int32) (v2 + (1 : Int32)) _ _ _ X (lv_sub hl [2, 1, 0] rfl) hf
set_option maxHeartbeats 4000000 in
set_option maxRecDepth 100000 in
theorem c_X2_squarefreeSign (l : Launch) (D : va_G) (T : KT) (h0 h1 h2 h3 h4 h5 h6 h7 : Nat) (N : Nat)  (m_count m_threes m_unit : Int32) (m_primeA m_primeB : Nat → Int64) (x : Int32) (hf : f_X2_squarefreeSign N m_count m_threes m_primeA m_primeB = some x) : kx_MI l yX2_squarefreeSign cX2_squarefreeSign 3 (some .int) 1 22 D T [.ref h0] (w32_X2 T h0 h1 h2 h3 h4 h5 h6 h7 m_count m_threes m_unit m_primeA m_primeB) (w32_X2 T h0 h1 h2 h3 h4 h5 h6 h7 m_count m_threes m_unit m_primeA m_primeB) x := by
  refine kx_ofMI RX2 rfl (plainFor_of_name (x := yX2_squarefreeSign) kpn_X2) rfl ?_
  intro E A H ls _ C X R hl
  have hl : lv_has ls 3 [(0, .ref h0)] := hl
  rw [f_X2_squarefreeSign] at hf
  refine x_iconst 1 C dX2_squarefreeSign_0 (1 : Int32) kv_iconst_1 rfl ?_
  refine x_istore_n 2 C dX2_squarefreeSign_1 [(1, .int (1 : Int32)), (0, .ref h0)] hl rfl rfl rfl (fun ls hl => ?_)
  refine x_iconst 3 C dX2_squarefreeSign_2 (0 : Int32) kv_iconst_0 rfl ?_
  refine x_istore_n 4 C dX2_squarefreeSign_3 [(2, .int (0 : Int32)), (1, .int (1 : Int32)), (0, .ref h0)] hl rfl rfl rfl (fun ls hl => ?_)
  exact w_X2_squarefreeSign_4 h0 h1 h2 h3 h4 h5 h6 h7 C N x m_count m_threes m_unit m_primeA m_primeB R  N (1 : Int32) (0 : Int32) _ _ _ X (lv_sub hl [2, 1, 0] rfl) hf
set_option maxHeartbeats 4000000 in
set_option maxRecDepth 100000 in
theorem c_X10_divisors (l : Launch) (D : va_G) (T : KT) (h : Nat → Nat) (N : Nat) (v1 v2 : Int32) (m_drawers_full m_drawers_kept : Int32) (m_drawers_partA m_drawers_partB m_drawers_keptA m_drawers_keptB m_drawers_keptFull : Nat → Int32) (m_tape_size m_tape_plain m_tape_omegas m_tape_end m_tape_place m_tape_plainTold m_tape_omegasTold : Int32) (m_tape_bytes : Nat → Int32) (m_euclid_count : Int32) (m_euclid_last_a m_euclid_last_b m_euclid_lastOfFirst_a m_euclid_lastOfFirst_b m_euclid_lastOfSecond_a m_euclid_lastOfSecond_b m_euclid_next_a m_euclid_next_b m_euclid_nextOfFirst_a m_euclid_nextOfFirst_b m_euclid_nextOfSecond_a m_euclid_nextOfSecond_b m_euclid_q_a m_euclid_q_b : Int64) (m_euclid_quotientA m_euclid_quotientB : Nat → Int64) (m_modulus_step m_modulus_width m_modulus_slant m_modulus_square_a m_modulus_square_b : Int64) (m_factors_count m_factors_threes m_factors_unit : Int32) (m_factors_primeA m_factors_primeB m_factors_norms : Nat → Int64) (m_factors_euclid_count : Int32) (m_factors_euclid_last_a m_factors_euclid_last_b m_factors_euclid_lastOfFirst_a m_factors_euclid_lastOfFirst_b m_factors_euclid_lastOfSecond_a m_factors_euclid_lastOfSecond_b m_factors_euclid_next_a m_factors_euclid_next_b m_factors_euclid_nextOfFirst_a m_factors_euclid_nextOfFirst_b m_factors_euclid_nextOfSecond_a m_factors_euclid_nextOfSecond_b m_factors_euclid_q_a m_factors_euclid_q_b : Int64) (m_factors_euclid_quotientA m_factors_euclid_quotientB : Nat → Int64) (m_factors_left_a m_factors_left_b m_factors_found_a m_factors_found_b m_factors_product_a m_factors_product_b : Int64) (m_primes_count : Int32) (m_primes_primeA m_primes_primeB : Nat → Int32) (m_primes_found_a m_primes_found_b : Int64) (m_rings_foundA m_rings_foundB m_rings_all m_rings_mostOfOneRow m_letters_count : Int32) (m_letters_bytes : Nat → Int32) (m_one_a m_one_b m_two_a m_two_b m_three_a m_three_b m_four_a m_four_b m_out_a m_out_b m_spare_a m_spare_b : Int64) (m_marks : Nat → Int32) (x : Int64 × Int32 × Int32 × Int32 × (Nat → Int64) × (Nat → Int64) × (Nat → Int64) × Int32 × Int64 × Int64 × Int64 × Int64 × Int64 × Int64 × Int64 × Int64 × Int64 × Int64 × Int64 × Int64 × Int64 × Int64 × (Nat → Int64) × (Nat → Int64) × Int64 × Int64 × Int64 × Int64 × Int64 × Int64 × Int64 × Int64) (hf : f_X10_divisors N v1 v2 m_drawers_full m_drawers_partA m_drawers_partB m_factors_count m_factors_threes m_factors_unit m_factors_primeA m_factors_primeB m_factors_norms m_factors_euclid_count m_factors_euclid_last_a m_factors_euclid_last_b m_factors_euclid_lastOfFirst_a m_factors_euclid_lastOfFirst_b m_factors_euclid_lastOfSecond_a m_factors_euclid_lastOfSecond_b m_factors_euclid_next_a m_factors_euclid_next_b m_factors_euclid_nextOfFirst_a m_factors_euclid_nextOfFirst_b m_factors_euclid_nextOfSecond_a m_factors_euclid_nextOfSecond_b m_factors_euclid_q_a m_factors_euclid_q_b m_factors_euclid_quotientA m_factors_euclid_quotientB m_factors_left_a m_factors_left_b m_factors_found_a m_factors_found_b m_factors_product_a m_factors_product_b m_one_a m_one_b = some x) : kx_ML l yX10_divisors cX10_divisors 3 (some .long) 6 146 D T [.ref (h 0), .int v1, .int v2] (wC T h m_drawers_full m_drawers_kept m_drawers_partA m_drawers_partB m_drawers_keptA m_drawers_keptB m_drawers_keptFull m_tape_size m_tape_plain m_tape_omegas m_tape_end m_tape_place m_tape_plainTold m_tape_omegasTold m_tape_bytes m_euclid_count m_euclid_last_a m_euclid_last_b m_euclid_lastOfFirst_a m_euclid_lastOfFirst_b m_euclid_lastOfSecond_a m_euclid_lastOfSecond_b m_euclid_next_a m_euclid_next_b m_euclid_nextOfFirst_a m_euclid_nextOfFirst_b m_euclid_nextOfSecond_a m_euclid_nextOfSecond_b m_euclid_q_a m_euclid_q_b m_euclid_quotientA m_euclid_quotientB m_modulus_step m_modulus_width m_modulus_slant m_modulus_square_a m_modulus_square_b m_factors_count m_factors_threes m_factors_unit m_factors_primeA m_factors_primeB m_factors_norms m_factors_euclid_count m_factors_euclid_last_a m_factors_euclid_last_b m_factors_euclid_lastOfFirst_a m_factors_euclid_lastOfFirst_b m_factors_euclid_lastOfSecond_a m_factors_euclid_lastOfSecond_b m_factors_euclid_next_a m_factors_euclid_next_b m_factors_euclid_nextOfFirst_a m_factors_euclid_nextOfFirst_b m_factors_euclid_nextOfSecond_a m_factors_euclid_nextOfSecond_b m_factors_euclid_q_a m_factors_euclid_q_b m_factors_euclid_quotientA m_factors_euclid_quotientB m_factors_left_a m_factors_left_b m_factors_found_a m_factors_found_b m_factors_product_a m_factors_product_b m_primes_count m_primes_primeA m_primes_primeB m_primes_found_a m_primes_found_b m_rings_foundA m_rings_foundB m_rings_all m_rings_mostOfOneRow m_letters_count m_letters_bytes m_one_a m_one_b m_two_a m_two_b m_three_a m_three_b m_four_a m_four_b m_out_a m_out_b m_spare_a m_spare_b m_marks) (wC T h m_drawers_full m_drawers_kept m_drawers_partA m_drawers_partB m_drawers_keptA m_drawers_keptB m_drawers_keptFull m_tape_size m_tape_plain m_tape_omegas m_tape_end m_tape_place m_tape_plainTold m_tape_omegasTold m_tape_bytes m_euclid_count m_euclid_last_a m_euclid_last_b m_euclid_lastOfFirst_a m_euclid_lastOfFirst_b m_euclid_lastOfSecond_a m_euclid_lastOfSecond_b m_euclid_next_a m_euclid_next_b m_euclid_nextOfFirst_a m_euclid_nextOfFirst_b m_euclid_nextOfSecond_a m_euclid_nextOfSecond_b m_euclid_q_a m_euclid_q_b m_euclid_quotientA m_euclid_quotientB m_modulus_step m_modulus_width m_modulus_slant m_modulus_square_a m_modulus_square_b x.2.1 x.2.2.1 x.2.2.2.1 x.2.2.2.2.1 x.2.2.2.2.2.1 x.2.2.2.2.2.2.1 x.2.2.2.2.2.2.2.1 x.2.2.2.2.2.2.2.2.1 x.2.2.2.2.2.2.2.2.2.1 x.2.2.2.2.2.2.2.2.2.2.1 x.2.2.2.2.2.2.2.2.2.2.2.1 x.2.2.2.2.2.2.2.2.2.2.2.2.1 x.2.2.2.2.2.2.2.2.2.2.2.2.2.1 x.2.2.2.2.2.2.2.2.2.2.2.2.2.2.1 x.2.2.2.2.2.2.2.2.2.2.2.2.2.2.2.1 x.2.2.2.2.2.2.2.2.2.2.2.2.2.2.2.2.1 x.2.2.2.2.2.2.2.2.2.2.2.2.2.2.2.2.2.1 x.2.2.2.2.2.2.2.2.2.2.2.2.2.2.2.2.2.2.1 x.2.2.2.2.2.2.2.2.2.2.2.2.2.2.2.2.2.2.2.1 x.2.2.2.2.2.2.2.2.2.2.2.2.2.2.2.2.2.2.2.2.1 x.2.2.2.2.2.2.2.2.2.2.2.2.2.2.2.2.2.2.2.2.2.1 x.2.2.2.2.2.2.2.2.2.2.2.2.2.2.2.2.2.2.2.2.2.2.1 x.2.2.2.2.2.2.2.2.2.2.2.2.2.2.2.2.2.2.2.2.2.2.2.1 x.2.2.2.2.2.2.2.2.2.2.2.2.2.2.2.2.2.2.2.2.2.2.2.2.1 x.2.2.2.2.2.2.2.2.2.2.2.2.2.2.2.2.2.2.2.2.2.2.2.2.2.1 x.2.2.2.2.2.2.2.2.2.2.2.2.2.2.2.2.2.2.2.2.2.2.2.2.2.2.1 x.2.2.2.2.2.2.2.2.2.2.2.2.2.2.2.2.2.2.2.2.2.2.2.2.2.2.2.1 x.2.2.2.2.2.2.2.2.2.2.2.2.2.2.2.2.2.2.2.2.2.2.2.2.2.2.2.2.1 x.2.2.2.2.2.2.2.2.2.2.2.2.2.2.2.2.2.2.2.2.2.2.2.2.2.2.2.2.2.1 m_primes_count m_primes_primeA m_primes_primeB m_primes_found_a m_primes_found_b m_rings_foundA m_rings_foundB m_rings_all m_rings_mostOfOneRow m_letters_count m_letters_bytes x.2.2.2.2.2.2.2.2.2.2.2.2.2.2.2.2.2.2.2.2.2.2.2.2.2.2.2.2.2.2.1 x.2.2.2.2.2.2.2.2.2.2.2.2.2.2.2.2.2.2.2.2.2.2.2.2.2.2.2.2.2.2.2 m_two_a m_two_b m_three_a m_three_b m_four_a m_four_b m_out_a m_out_b m_spare_a m_spare_b m_marks) x.1 := by
  refine kx_ofML RX10 rfl (plainFor_of_name (x := yX10_divisors) kpn_X10) rfl ?_
  intro E A H ls _ C X R hl
  have hl : lv_has ls 3 [(0, .ref (h 0)), (1, .int v1), (2, .int v2)] := hl
  rw [f_X10_divisors] at hf
  refine x_aload_n 1 C dX10_divisors_0 hl 0 rfl rfl ?_
  refine x_get 4 C dX10_divisors_1 X kf_X10_12 0 rfl rfl rfl ?_
  refine x_iload_n 5 C dX10_divisors_4 hl 1 rfl rfl ?_
  obtain ⟨y5, hy5, hf⟩ := kx_bind hf
  refine x_callVi 8 C dX10_divisors_5 X hl kl_X10_130 (c_X0_has E.2.1 D T (h 1) (h 2) (h 3) (h 4) (h 5) (h 6) v1 m_drawers_full m_drawers_kept y5 hy5) rfl rfl [] rfl rfl rfl rfl rfl cb_9 rfl (fun H locs X => ?_)
  refine x_if_eq 20 11 C dX10_divisors_8 rfl rfl hf (fun hf => ?_) (fun hf => ?_)
  · refine x_ldc2_w 23 C dX10_divisors_20 (-9223372036854775808 : Int64) kc_X10_247 rfl ?_
    obtain rfl := Option.some.inj hf
    exact R _ _ _ _ X dX10_divisors_23
  refine x_iload_n 12 C dX10_divisors_11 hl 2 rfl rfl ?_
  refine x_if_lt 20 15 C dX10_divisors_12 rfl rfl hf (fun hf => ?_) (fun hf => ?_)
  · refine x_ldc2_w 23 C dX10_divisors_20 (-9223372036854775808 : Int64) kc_X10_247 rfl ?_
    obtain rfl := Option.some.inj hf
    exact R _ _ _ _ X dX10_divisors_23
  refine x_iload_n 16 C dX10_divisors_15 hl 2 rfl rfl ?_
  refine x_iconst 17 C dX10_divisors_16 (3 : Int32) kv_iconst_3 rfl ?_
  refine x_icmp_le 24 20 C dX10_divisors_17 rfl rfl hf (fun hf => ?_) (fun hf => ?_)
  · refine x_aload_n 25 C dX10_divisors_24 hl 0 rfl rfl ?_
    refine x_get 28 C dX10_divisors_25 X kf_X10_12 0 rfl rfl rfl ?_
    refine x_iload_n 29 C dX10_divisors_28 hl 1 rfl rfl ?_
    refine x_aload_n 30 C dX10_divisors_29 hl 0 rfl rfl ?_
    refine x_get 33 C dX10_divisors_30 X kf_X10_70 0 rfl rfl rfl ?_
    obtain ⟨y33, hy33, hf⟩ := kx_bind hf
    refine x_callVv 36 C dX10_divisors_33 X hl kl_X10_141 (c_X0_load E.2.1 D T (h 1) (h 2) (h 3) (h 4) (h 5) (h 6) (h 45) v1 m_drawers_full m_drawers_kept m_drawers_partA m_drawers_partB m_one_a m_one_b y33 hy33) rfl rfl [] rfl rfl rfl rfl rfl cb_11 rfl (fun H locs X => ?_)
    refine x_aload_n 37 C dX10_divisors_36 hl 0 rfl rfl ?_
    refine x_get 40 C dX10_divisors_37 X kf_X10_70 0 rfl rfl rfl ?_
    obtain ⟨y40, hy40, hf⟩ := kx_bind hf
    refine x_callVi 43 C dX10_divisors_40 X hl kl_X10_170 (c_X5_isNought E.2.1 D T (h 45)  y33.1 y33.2 y40 hy40) rfl rfl [] rfl rfl rfl rfl rfl cb_12 rfl (fun H locs X => ?_)
    refine x_if_eq 50 46 C dX10_divisors_43 rfl rfl hf (fun hf => ?_) (fun hf => ?_)
    · refine x_aload_n 51 C dX10_divisors_50 hl 0 rfl rfl ?_
      refine x_get 54 C dX10_divisors_51 X kf_X10_42 0 rfl rfl rfl ?_
      refine x_aload_n 55 C dX10_divisors_54 hl 0 rfl rfl ?_
      refine x_get 58 C dX10_divisors_55 X kf_X10_70 0 rfl rfl rfl ?_
      obtain ⟨y58, hy58, hf⟩ := kx_bind hf
      refine x_callVv 61 C dX10_divisors_58 X hl kl_X10_228 (c_X2_spell E.2.1 D T (h 21) (h 22) (h 23) (h 24) (h 25) (h 26) (h 27) (h 28) (h 29) (h 30) (h 31) (h 32) (h 33) (h 34) (h 35) (h 36) (h 37) (h 45) N  m_factors_count m_factors_threes m_factors_unit m_factors_primeA m_factors_primeB m_factors_norms m_factors_euclid_count m_factors_euclid_last_a m_factors_euclid_last_b m_factors_euclid_lastOfFirst_a m_factors_euclid_lastOfFirst_b m_factors_euclid_lastOfSecond_a m_factors_euclid_lastOfSecond_b m_factors_euclid_next_a m_factors_euclid_next_b m_factors_euclid_nextOfFirst_a m_factors_euclid_nextOfFirst_b m_factors_euclid_nextOfSecond_a m_factors_euclid_nextOfSecond_b m_factors_euclid_q_a m_factors_euclid_q_b m_factors_euclid_quotientA m_factors_euclid_quotientB m_factors_left_a m_factors_left_b m_factors_found_a m_factors_found_b m_factors_product_a m_factors_product_b y33.1 y33.2 y58 hy58) rfl rfl [] rfl rfl rfl rfl rfl cb_16 rfl (fun H locs X => ?_)
      refine x_iload_n 62 C dX10_divisors_61 hl 2 rfl rfl ?_
      refine kx_sw hf (fun hs0 hf => ?_) (fun hs0 hf => ?_)
      · refine x_table (off := 26) 88 C dX10_divisors_62 (0 : Int32) hs0 (by decide) (by decide) (by decide) rfl ?_
        refine x_aload_n 89 C dX10_divisors_88 hl 0 rfl rfl ?_
        refine x_get 92 C dX10_divisors_89 X kf_X10_42 0 rfl rfl rfl ?_
        refine x_iconst 93 C dX10_divisors_92 (0 : Int32) kv_iconst_0 rfl ?_
        obtain ⟨y93, hy93, hf⟩ := kx_bind hf
        refine x_callVl 96 C dX10_divisors_93 X hl kl_X10_249 (c_X2_divisorSum E.2.1 D T (h 21) (h 22) (h 23) (h 24) (h 25) (h 35) (h 36) (h 37) N (0 : Int32) y58.1 y58.2.1 y58.2.2.1 y58.2.2.2.1 y58.2.2.2.2.1 y58.2.2.2.2.2.1 y93 hy93) rfl rfl [] rfl rfl rfl rfl rfl cb_76 rfl (fun H locs X => ?_)
        obtain rfl := Option.some.inj hf
        exact R _ _ _ _ X dX10_divisors_96
      refine kx_sw hf (fun hs1 hf => ?_) (fun hs1 hf => ?_)
      · refine x_table (off := 35) 97 C dX10_divisors_62 (1 : Int32) hs1 (by decide) (by decide) (by decide) rfl ?_
        refine x_aload_n 98 C dX10_divisors_97 hl 0 rfl rfl ?_
        refine x_get 101 C dX10_divisors_98 X kf_X10_42 0 rfl rfl rfl ?_
        refine x_iconst 102 C dX10_divisors_101 (1 : Int32) kv_iconst_1 rfl ?_
        obtain ⟨y102, hy102, hf⟩ := kx_bind hf
        refine x_callVl 105 C dX10_divisors_102 X hl kl_X10_249 (c_X2_divisorSum E.2.1 D T (h 21) (h 22) (h 23) (h 24) (h 25) (h 35) (h 36) (h 37) N (1 : Int32) y58.1 y58.2.1 y58.2.2.1 y58.2.2.2.1 y58.2.2.2.2.1 y58.2.2.2.2.2.1 y102 hy102) rfl rfl [] rfl rfl rfl rfl rfl cb_76 rfl (fun H locs X => ?_)
        obtain rfl := Option.some.inj hf
        exact R _ _ _ _ X dX10_divisors_105
      refine kx_sw hf (fun hs2 hf => ?_) (fun hs2 hf => ?_)
      · refine x_table (off := 44) 106 C dX10_divisors_62 (2 : Int32) hs2 (by decide) (by decide) (by decide) rfl ?_
        refine x_aload_n 107 C dX10_divisors_106 hl 0 rfl rfl ?_
        refine x_get 110 C dX10_divisors_107 X kf_X10_42 0 rfl rfl rfl ?_
        obtain ⟨y110, hy110, hf⟩ := kx_bind hf
        refine x_callVl 113 C dX10_divisors_110 X hl kl_X10_253 (c_X2_primeClasses E.2.1 D T (h 21) (h 22) (h 23) (h 24) (h 25) (h 35) (h 36) (h 37) N  y58.1 y58.2.1 y58.2.2.1 y58.2.2.2.1 y58.2.2.2.2.1 y58.2.2.2.2.2.1 y110 hy110) rfl rfl [] rfl rfl rfl rfl rfl cb_76 rfl (fun H locs X => ?_)
        obtain rfl := Option.some.inj hf
        exact R _ _ _ _ X dX10_divisors_113
      refine x_tableOut 114 C dX10_divisors_62 (by have hn0 := lv_neT (a := 0) hs0 (by decide); have hn1 := lv_neT (a := 1) hs1 (by decide); have hn2 := lv_neT (a := 2) hs2 (by decide); omega) rfl ?_
      refine x_aload_n 115 C dX10_divisors_114 hl 0 rfl rfl ?_
      refine x_get 118 C dX10_divisors_115 X kf_X10_42 0 rfl rfl rfl ?_
      obtain ⟨y118, hy118, hf⟩ := kx_bind hf
      refine x_callVi 121 C dX10_divisors_118 X hl kl_X10_256 (c_X2_squarefreeSign E.2.1 D T (h 21) (h 22) (h 23) (h 24) (h 25) (h 35) (h 36) (h 37) N  y58.1 y58.2.1 y58.2.2.1 y58.2.2.2.1 y58.2.2.2.2.1 y118 hy118) rfl rfl [] rfl rfl rfl rfl rfl cb_77 rfl (fun H locs X => ?_)
      refine x_i2l 122 C dX10_divisors_121 rfl ?_
      obtain rfl := Option.some.inj hf
      exact R _ _ _ _ X dX10_divisors_122
    refine x_ldc2_w 49 C dX10_divisors_46 (-9223372036854775808 : Int64) kc_X10_247 rfl ?_
    obtain rfl := Option.some.inj hf
    exact R _ _ _ _ X dX10_divisors_49
  refine x_ldc2_w 23 C dX10_divisors_20 (-9223372036854775808 : Int64) kc_X10_247 rfl ?_
  obtain rfl := Option.some.inj hf
  exact R _ _ _ _ X dX10_divisors_23
