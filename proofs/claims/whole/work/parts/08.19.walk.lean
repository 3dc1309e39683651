set_option maxHeartbeats 4000000 in
set_option maxRecDepth 100000 in
theorem c_X10_disk (l : Launch) (D : va_G) (T : KT) (h : Nat → Nat) (N : Nat) (v1 v2 : Int32) (m_drawers_full m_drawers_kept : Int32) (m_drawers_partA m_drawers_partB m_drawers_keptA m_drawers_keptB m_drawers_keptFull : Nat → Int32) (m_tape_size m_tape_plain m_tape_omegas m_tape_end m_tape_place m_tape_plainTold m_tape_omegasTold : Int32) (m_tape_bytes : Nat → Int32) (m_euclid_count : Int32) (m_euclid_last_a m_euclid_last_b m_euclid_lastOfFirst_a m_euclid_lastOfFirst_b m_euclid_lastOfSecond_a m_euclid_lastOfSecond_b m_euclid_next_a m_euclid_next_b m_euclid_nextOfFirst_a m_euclid_nextOfFirst_b m_euclid_nextOfSecond_a m_euclid_nextOfSecond_b m_euclid_q_a m_euclid_q_b : Int64) (m_euclid_quotientA m_euclid_quotientB : Nat → Int64) (m_modulus_step m_modulus_width m_modulus_slant m_modulus_square_a m_modulus_square_b : Int64) (m_factors_count m_factors_threes m_factors_unit : Int32) (m_factors_primeA m_factors_primeB m_factors_norms : Nat → Int64) (m_factors_euclid_count : Int32) (m_factors_euclid_last_a m_factors_euclid_last_b m_factors_euclid_lastOfFirst_a m_factors_euclid_lastOfFirst_b m_factors_euclid_lastOfSecond_a m_factors_euclid_lastOfSecond_b m_factors_euclid_next_a m_factors_euclid_next_b m_factors_euclid_nextOfFirst_a m_factors_euclid_nextOfFirst_b m_factors_euclid_nextOfSecond_a m_factors_euclid_nextOfSecond_b m_factors_euclid_q_a m_factors_euclid_q_b : Int64) (m_factors_euclid_quotientA m_factors_euclid_quotientB : Nat → Int64) (m_factors_left_a m_factors_left_b m_factors_found_a m_factors_found_b m_factors_product_a m_factors_product_b : Int64) (m_primes_count : Int32) (m_primes_primeA m_primes_primeB : Nat → Int32) (m_primes_found_a m_primes_found_b : Int64) (m_rings_foundA m_rings_foundB m_rings_all m_rings_mostOfOneRow m_letters_count : Int32) (m_letters_bytes : Nat → Int32) (m_one_a m_one_b m_two_a m_two_b m_three_a m_three_b m_four_a m_four_b m_out_a m_out_b m_spare_a m_spare_b : Int64) (m_marks : Nat → Int32) (x : Int32 × Int32 × Int32) (hf : f_X10_disk N v1 v2 m_rings_all m_rings_mostOfOneRow = some x) : kx_MI l yX10_disk cX10_disk 3 (some .int) 2 48 D T [.ref (h 0), .int v1, .int v2] (wC T h m_drawers_full m_drawers_kept m_drawers_partA m_drawers_partB m_drawers_keptA m_drawers_keptB m_drawers_keptFull m_tape_size m_tape_plain m_tape_omegas m_tape_end m_tape_place m_tape_plainTold m_tape_omegasTold m_tape_bytes m_euclid_count m_euclid_last_a m_euclid_last_b m_euclid_lastOfFirst_a m_euclid_lastOfFirst_b m_euclid_lastOfSecond_a m_euclid_lastOfSecond_b m_euclid_next_a m_euclid_next_b m_euclid_nextOfFirst_a m_euclid_nextOfFirst_b m_euclid_nextOfSecond_a m_euclid_nextOfSecond_b m_euclid_q_a m_euclid_q_b m_euclid_quotientA m_euclid_quotientB m_modulus_step m_modulus_width m_modulus_slant m_modulus_square_a m_modulus_square_b m_factors_count m_factors_threes m_factors_unit m_factors_primeA m_factors_primeB m_factors_norms m_factors_euclid_count m_factors_euclid_last_a m_factors_euclid_last_b m_factors_euclid_lastOfFirst_a m_factors_euclid_lastOfFirst_b m_factors_euclid_lastOfSecond_a m_factors_euclid_lastOfSecond_b m_factors_euclid_next_a m_factors_euclid_next_b m_factors_euclid_nextOfFirst_a m_factors_euclid_nextOfFirst_b m_factors_euclid_nextOfSecond_a m_factors_euclid_nextOfSecond_b m_factors_euclid_q_a m_factors_euclid_q_b m_factors_euclid_quotientA m_factors_euclid_quotientB m_factors_left_a m_factors_left_b m_factors_found_a m_factors_found_b m_factors_product_a m_factors_product_b m_primes_count m_primes_primeA m_primes_primeB m_primes_found_a m_primes_found_b m_rings_foundA m_rings_foundB m_rings_all m_rings_mostOfOneRow m_letters_count m_letters_bytes m_one_a m_one_b m_two_a m_two_b m_three_a m_three_b m_four_a m_four_b m_out_a m_out_b m_spare_a m_spare_b m_marks) (wC T h m_drawers_full m_drawers_kept m_drawers_partA m_drawers_partB m_drawers_keptA m_drawers_keptB m_drawers_keptFull m_tape_size m_tape_plain m_tape_omegas m_tape_end m_tape_place m_tape_plainTold m_tape_omegasTold m_tape_bytes m_euclid_count m_euclid_last_a m_euclid_last_b m_euclid_lastOfFirst_a m_euclid_lastOfFirst_b m_euclid_lastOfSecond_a m_euclid_lastOfSecond_b m_euclid_next_a m_euclid_next_b m_euclid_nextOfFirst_a m_euclid_nextOfFirst_b m_euclid_nextOfSecond_a m_euclid_nextOfSecond_b m_euclid_q_a m_euclid_q_b m_euclid_quotientA m_euclid_quotientB m_modulus_step m_modulus_width m_modulus_slant m_modulus_square_a m_modulus_square_b m_factors_count m_factors_threes m_factors_unit m_factors_primeA m_factors_primeB m_factors_norms m_factors_euclid_count m_factors_euclid_last_a m_factors_euclid_last_b m_factors_euclid_lastOfFirst_a m_factors_euclid_lastOfFirst_b m_factors_euclid_lastOfSecond_a m_factors_euclid_lastOfSecond_b m_factors_euclid_next_a m_factors_euclid_next_b m_factors_euclid_nextOfFirst_a m_factors_euclid_nextOfFirst_b m_factors_euclid_nextOfSecond_a m_factors_euclid_nextOfSecond_b m_factors_euclid_q_a m_factors_euclid_q_b m_factors_euclid_quotientA m_factors_euclid_quotientB m_factors_left_a m_factors_left_b m_factors_found_a m_factors_found_b m_factors_product_a m_factors_product_b m_primes_count m_primes_primeA m_primes_primeB m_primes_found_a m_primes_found_b m_rings_foundA m_rings_foundB x.2.1 x.2.2 m_letters_count m_letters_bytes m_one_a m_one_b m_two_a m_two_b m_three_a m_three_b m_four_a m_four_b m_out_a m_out_b m_spare_a m_spare_b m_marks) x.1 := by
  refine kx_ofMI RX10 rfl (plainFor_of_name (x := yX10_disk) kpn_X10) rfl ?_
  intro E A H ls _ C X R hl
  have hl : lv_has ls 3 [(0, .ref (h 0)), (1, .int v1), (2, .int v2)] := hl
  rw [f_X10_disk] at hf
  refine x_iload_n 1 C dX10_disk_0 hl 1 rfl rfl ?_
  refine x_if_lt 20 4 C dX10_disk_1 rfl rfl hf (fun hf => ?_) (fun hf => ?_)
  · refine x_iconst 21 C dX10_disk_20 (-1 : Int32) kv_iconst_m1 rfl ?_
    obtain rfl := Option.some.inj hf
    exact R _ _ _ _ X dX10_disk_21
  refine x_iload_n 5 C dX10_disk_4 hl 1 rfl rfl ?_
  refine x_ldc_w 8 C dX10_disk_5 (1000000 : Int32) kc_X10_431 rfl ?_
  refine x_icmp_gt 20 11 C dX10_disk_8 rfl rfl hf (fun hf => ?_) (fun hf => ?_)
  · refine x_iconst 21 C dX10_disk_20 (-1 : Int32) kv_iconst_m1 rfl ?_
    obtain rfl := Option.some.inj hf
    exact R _ _ _ _ X dX10_disk_21
  refine x_iload_n 12 C dX10_disk_11 hl 2 rfl rfl ?_
  refine x_if_lt 20 15 C dX10_disk_12 rfl rfl hf (fun hf => ?_) (fun hf => ?_)
  · refine x_iconst 21 C dX10_disk_20 (-1 : Int32) kv_iconst_m1 rfl ?_
    obtain rfl := Option.some.inj hf
    exact R _ _ _ _ X dX10_disk_21
  refine x_iload_n 16 C dX10_disk_15 hl 2 rfl rfl ?_
  refine x_iconst 17 C dX10_disk_16 (1 : Int32) kv_iconst_1 rfl ?_
  refine x_icmp_le 22 20 C dX10_disk_17 rfl rfl hf (fun hf => ?_) (fun hf => ?_)
  · refine x_aload_n 23 C dX10_disk_22 hl 0 rfl rfl ?_
    refine x_get 26 C dX10_disk_23 X kf_X10_56 0 rfl rfl rfl ?_
    refine x_iload_n 27 C dX10_disk_26 hl 1 rfl rfl ?_
    obtain ⟨y27, hy27, hf⟩ := kx_bind hf
    refine x_callVv 30 C dX10_disk_27 X hl kl_X10_435 (c_X7_fillDisk E.2.1 D T (h 42) N v1 m_rings_foundA m_rings_foundB m_rings_all m_rings_mostOfOneRow y27 hy27) rfl rfl [] rfl rfl rfl rfl rfl cb_138 rfl (fun H locs X => ?_)
    refine x_iload_n 31 C dX10_disk_30 hl 2 rfl rfl ?_
    refine x_if_ne 44 34 C dX10_disk_31 rfl rfl hf (fun hf => ?_) (fun hf => ?_)
    · refine x_aload_n 45 C dX10_disk_44 hl 0 rfl rfl ?_
      refine x_get 48 C dX10_disk_45 X kf_X10_56 0 rfl rfl rfl ?_
      refine x_get 51 C dX10_disk_48 X kf_X10_441 42 rfl rfl rfl ?_
      obtain rfl := Option.some.inj hf
      exact R _ _ _ _ X dX10_disk_51
    refine x_aload_n 35 C dX10_disk_34 hl 0 rfl rfl ?_
    refine x_get 38 C dX10_disk_35 X kf_X10_56 0 rfl rfl rfl ?_
    refine x_get 41 C dX10_disk_38 X kf_X10_438 42 rfl rfl rfl ?_
    refine x_goto 51 C dX10_disk_41 rfl ?_
    obtain rfl := Option.some.inj hf
    exact R _ _ _ _ X dX10_disk_51
  refine x_iconst 21 C dX10_disk_20 (-1 : Int32) kv_iconst_m1 rfl ?_
  obtain rfl := Option.some.inj hf
  exact R _ _ _ _ X dX10_disk_21
set_option maxHeartbeats 4000000 in
set_option maxRecDepth 100000 in
theorem w_X11_disk_34 {E : KE} {A : Nat → Prop} {D : va_G} {T : KT} (h : Nat → Nat) (C : kx_C E cX11_disk 8 (some .int) RX11 1 26 D T) (N : Nat) (x : Int32) (m_taped m_states : Int32) (m_ra m_rb : Int64) (m_threes m_primes m_ones m_unit : Int32) (m_allParts m_allNorms m_allClasses : Int64) (m_odd : Int32) (m_boxWide m_boxHigh m_boxStep : Int64) (m_partingMany : Int32) (m_qa m_qb m_la m_lb m_sa m_sb m_ta m_tb : Int64) (m_listed m_tells m_wanted m_found : Int32) (m_bits : Int64) (m_power2 m_rings m_ringA m_ringB m_seedNow : Int32) (m_tape m_has m_keptHas m_first m_second m_keptFirst m_keptSecond m_pa m_pb m_pNorm m_cubed m_isOpen m_signs m_often m_la0 m_lb0 : Nat → Int32) (R : kx_RI E cX11_disk D A (wM T h m_taped m_states m_ra m_rb m_threes m_primes m_ones m_unit m_allParts m_allNorms m_allClasses m_odd m_boxWide m_boxHigh m_boxStep m_partingMany m_qa m_qb m_la m_lb m_sa m_sb m_ta m_tb m_listed m_tells m_wanted m_found m_bits m_power2 m_rings m_ringA m_ringB m_seedNow m_tape m_has m_keptHas m_first m_second m_keptFirst m_keptSecond m_pa m_pb m_pNorm m_cubed m_isOpen m_signs m_often m_la0 m_lb0) x) : ∀ (k : Nat), ∀  (v1 v2 v3 v4 v5 : Int32) (H : Heap) (locs : List Loc) (ls : Array Slot), kx_H E D A H locs (wM T h m_taped m_states m_ra m_rb m_threes m_primes m_ones m_unit m_allParts m_allNorms m_allClasses m_odd m_boxWide m_boxHigh m_boxStep m_partingMany m_qa m_qb m_la m_lb m_sa m_sb m_ta m_tb m_listed m_tells m_wanted m_found m_bits m_power2 m_rings m_ringA m_ringB m_seedNow m_tape m_has m_keptHas m_first m_second m_keptFirst m_keptSecond m_pa m_pb m_pNorm m_cubed m_isOpen m_signs m_often m_la0 m_lb0) → lv_has ls 8 [(1, .int v1), (2, .int v2), (3, .int v3), (4, .int v4), (5, .int v5)] → f_X11_disk_34 N k v1 v2 v3 v4 v5 = some x → kx_W E H locs 34 ls [] := by
  intro k
  induction k with
  | zero =>
    intro v1 v2 v3 v4 v5 H locs ls X hl hf
    cases (show (none : Option (Int32)) = some x from hf)
  | succ k ih =>
    intro v1 v2 v3 v4 v5 H locs ls X hl hf
    rw [f_X11_disk_34] at hf
    refine x_iload 36 C dX11_disk_34 hl 4 rfl rfl ?_
    refine x_sipush 39 C dX11_disk_36 (1200 : Int32) kv_sipush_1200 rfl ?_
    refine x_icmp_gt 123 42 C dX11_disk_39 rfl rfl hf (fun hf => ?_) (fun hf => ?_)
    · refine x_iload_n 124 C dX11_disk_123 hl 1 rfl rfl ?_
      refine x_if_ne 131 127 C dX11_disk_124 rfl rfl hf (fun hf => ?_) (fun hf => ?_)
      · refine x_iload 133 C dX11_disk_131 hl 3 rfl rfl ?_
        obtain rfl := Option.some.inj hf
        exact R _ _ _ _ X dX11_disk_133
      refine x_iload_n 128 C dX11_disk_127 hl 2 rfl rfl ?_
      refine x_goto 133 C dX11_disk_128 rfl ?_
      obtain rfl := Option.some.inj hf
      exact R _ _ _ _ X dX11_disk_133
    refine x_iconst 43 C dX11_disk_42 (4 : Int32) kv_iconst_4 rfl ?_
    refine x_iload_n 44 C dX11_disk_43 hl 0 rfl rfl ?_
    refine x_imul 45 C dX11_disk_44 rfl ?_
    refine x_iconst 46 C dX11_disk_45 (3 : Int32) kv_iconst_3 rfl ?_
    refine x_iload 48 C dX11_disk_46 hl 4 rfl rfl ?_
    refine x_imul 49 C dX11_disk_48 rfl ?_
    refine x_iload 51 C dX11_disk_49 hl 4 rfl rfl ?_
    refine x_imul 52 C dX11_disk_51 rfl ?_
    refine x_isub 53 C dX11_disk_52 rfl ?_
    obtain ⟨y53, hy53, hf⟩ := kx_bind hf
    refine x_callSi 56 C dX11_disk_53 X hl kl_X11_217 (c_X11_rootOf E.2.1 D T  N (((4 : Int32) * v1) - (((3 : Int32) * v5) * v5))  y53 hy53) [] rfl rfl rfl rfl rfl cb_7 rfl (fun H locs X => ?_)
    refine x_istore 58 C dX11_disk_56 [(6, .int y53), (1, .int v1), (2, .int v2), (3, .int v3), (4, .int v4), (5, .int v5)] hl rfl rfl rfl (fun ls hl => ?_)
    refine x_iload 60 C dX11_disk_58 hl 0 rfl rfl ?_
    refine x_if_ge 66 63 C dX11_disk_60 rfl rfl hf (fun hf => ?_) (fun hf => ?_)
    · refine x_iload 68 C dX11_disk_66 hl 5 rfl rfl ?_
      refine x_iload 70 C dX11_disk_68 hl 0 rfl rfl ?_
      refine x_iadd 71 C dX11_disk_70 rfl ?_
      refine x_i2l 72 C dX11_disk_71 rfl ?_
      refine x_ldc2_w 75 C dX11_disk_72 (2 : Int64) kc_X11_119 rfl ?_
      obtain ⟨y75, hy75, hf⟩ := kx_bind hf
      refine x_callSl 78 C dX11_disk_75 X hl kl_X11_63 (c_X11_down E.2.1 D T  ((v5 + y53)).toInt64 (2 : Int64)  y75 hy75) [] rfl rfl rfl rfl rfl cb_7 rfl (fun H locs X => ?_)
      refine x_iload 80 C dX11_disk_78 hl 0 rfl rfl ?_
      refine x_iload 82 C dX11_disk_80 hl 5 rfl rfl ?_
      refine x_isub 83 C dX11_disk_82 rfl ?_
      refine x_i2l 84 C dX11_disk_83 rfl ?_
      refine x_ldc2_w 87 C dX11_disk_84 (2 : Int64) kc_X11_119 rfl ?_
      obtain ⟨y87, hy87, hf⟩ := kx_bind hf
      refine x_callSl 90 C dX11_disk_87 X hl kl_X11_63 (c_X11_down E.2.1 D T  ((y53 - v5)).toInt64 (2 : Int64)  y87 hy87) [.long y75] rfl rfl rfl rfl rfl cb_7 rfl (fun H locs X => ?_)
      refine x_ladd 91 C dX11_disk_90 rfl ?_
      refine x_l2i 92 C dX11_disk_91 rfl ?_
      refine x_iconst 93 C dX11_disk_92 (1 : Int32) kv_iconst_1 rfl ?_
      refine x_iadd 94 C dX11_disk_93 rfl ?_
      refine x_istore 96 C dX11_disk_94 [(7, .int (((y75 + y87)).toInt32 + (1 : Int32))), (6, .int y53), (1, .int v1), (2, .int v2), (3, .int v3), (4, .int v4), (5, .int v5)] hl rfl rfl rfl (fun ls hl => ?_)
      refine x_iload_n 97 C dX11_disk_96 hl 4 rfl rfl ?_
      refine x_iload 99 C dX11_disk_97 hl 0 rfl rfl ?_
      refine x_iadd 100 C dX11_disk_99 rfl ?_
      refine x_istore_n 101 C dX11_disk_100 [(3, .int (v3 + (((y75 + y87)).toInt32 + (1 : Int32)))), (7, .int (((y75 + y87)).toInt32 + (1 : Int32))), (6, .int y53), (1, .int v1), (2, .int v2), (4, .int v4), (5, .int v5)] hl rfl rfl rfl (fun ls hl => ?_)
      refine x_iload 103 C dX11_disk_101 hl 1 rfl rfl ?_
      refine x_iload 105 C dX11_disk_103 hl 5 rfl rfl ?_
      refine x_icmp_le 113 108 C dX11_disk_105 rfl rfl hf (fun hf => ?_) (fun hf => ?_)
      · refine x_iload 115 C dX11_disk_113 hl 5 rfl rfl ?_
        refine x_istore 117 C dX11_disk_115 [(4, .int v4), (3, .int (v3 + (((y75 + y87)).toInt32 + (1 : Int32)))), (7, .int (((y75 + y87)).toInt32 + (1 : Int32))), (6, .int y53), (1, .int v1), (2, .int v2), (5, .int v5)] hl rfl rfl rfl (fun ls hl => ?_)
        refine x_iinc 120 C dX11_disk_117 (1 : Int32) kv_iconst_1 [(5, .int (v5 + (1 : Int32))), (4, .int v4), (3, .int (v3 + (((y75 + y87)).toInt32 + (1 : Int32)))), (7, .int (((y75 + y87)).toInt32 + (1 : Int32))), (6, .int y53), (1, .int v1), (2, .int v2)] hl 6 rfl rfl rfl rfl (fun ls hl => ?_)
        refine x_goto 34 C dX11_disk_120 rfl ?_
        exact ih v1 v2 (v3 + (((y75 + y87)).toInt32 + (1 : Int32))) v4 (v5 + (1 : Int32)) _ _ _ X (lv_sub hl [5, 6, 2, 1, 0] rfl) hf
      refine x_iload 110 C dX11_disk_108 hl 1 rfl rfl ?_
      refine x_goto 115 C dX11_disk_110 rfl ?_
      refine x_istore 117 C dX11_disk_115 [(4, .int (((y75 + y87)).toInt32 + (1 : Int32))), (3, .int (v3 + (((y75 + y87)).toInt32 + (1 : Int32)))), (7, .int (((y75 + y87)).toInt32 + (1 : Int32))), (6, .int y53), (1, .int v1), (2, .int v2), (5, .int v5)] hl rfl rfl rfl (fun ls hl => ?_)
      refine x_iinc 120 C dX11_disk_117 (1 : Int32) kv_iconst_1 [(5, .int (v5 + (1 : Int32))), (4, .int (((y75 + y87)).toInt32 + (1 : Int32))), (3, .int (v3 + (((y75 + y87)).toInt32 + (1 : Int32)))), (7, .int (((y75 + y87)).toInt32 + (1 : Int32))), (6, .int y53), (1, .int v1), (2, .int v2)] hl 6 rfl rfl rfl rfl (fun ls hl => ?_)
      refine x_goto 34 C dX11_disk_120 rfl ?_
      exact ih v1 v2 (v3 + (((y75 + y87)).toInt32 + (1 : Int32))) (((y75 + y87)).toInt32 + (1 : Int32)) (v5 + (1 : Int32)) _ _ _ X (lv_sub hl [5, 6, 2, 1, 0] rfl) hf
    refine x_goto 117 C dX11_disk_63 rfl ?_
    refine x_iinc 120 C dX11_disk_117 (1 : Int32) kv_iconst_1 [(5, .int (v5 + (1 : Int32))), (6, .int y53), (1, .int v1), (2, .int v2), (3, .int v3), (4, .int v4)] hl 5 rfl rfl rfl rfl (fun ls hl => ?_)
    refine x_goto 34 C dX11_disk_120 rfl ?_
    exact ih v1 v2 v3 v4 (v5 + (1 : Int32)) _ _ _ X (lv_sub hl [2, 3, 4, 5, 0] rfl) hf
set_option maxHeartbeats 4000000 in
set_option maxRecDepth 100000 in
theorem c_X11_disk (l : Launch) (D : va_G) (T : KT) (h : Nat → Nat) (N : Nat) (v1 v2 : Int32) (m_taped m_states : Int32) (m_ra m_rb : Int64) (m_threes m_primes m_ones m_unit : Int32) (m_allParts m_allNorms m_allClasses : Int64) (m_odd : Int32) (m_boxWide m_boxHigh m_boxStep : Int64) (m_partingMany : Int32) (m_qa m_qb m_la m_lb m_sa m_sb m_ta m_tb : Int64) (m_listed m_tells m_wanted m_found : Int32) (m_bits : Int64) (m_power2 m_rings m_ringA m_ringB m_seedNow : Int32) (m_tape m_has m_keptHas m_first m_second m_keptFirst m_keptSecond m_pa m_pb m_pNorm m_cubed m_isOpen m_signs m_often m_la0 m_lb0 : Nat → Int32) (x : Int32) (hf : f_X11_disk N v1 v2 = some x) : kx_MI l yX11_disk cX11_disk 8 (some .int) 1 26 D T [.ref (h 0), .int v1, .int v2] (wM T h m_taped m_states m_ra m_rb m_threes m_primes m_ones m_unit m_allParts m_allNorms m_allClasses m_odd m_boxWide m_boxHigh m_boxStep m_partingMany m_qa m_qb m_la m_lb m_sa m_sb m_ta m_tb m_listed m_tells m_wanted m_found m_bits m_power2 m_rings m_ringA m_ringB m_seedNow m_tape m_has m_keptHas m_first m_second m_keptFirst m_keptSecond m_pa m_pb m_pNorm m_cubed m_isOpen m_signs m_often m_la0 m_lb0) (wM T h m_taped m_states m_ra m_rb m_threes m_primes m_ones m_unit m_allParts m_allNorms m_allClasses m_odd m_boxWide m_boxHigh m_boxStep m_partingMany m_qa m_qb m_la m_lb m_sa m_sb m_ta m_tb m_listed m_tells m_wanted m_found m_bits m_power2 m_rings m_ringA m_ringB m_seedNow m_tape m_has m_keptHas m_first m_second m_keptFirst m_keptSecond m_pa m_pb m_pNorm m_cubed m_isOpen m_signs m_often m_la0 m_lb0) x := by
  refine kx_ofMI RX11 rfl (plainFor_of_name (x := yX11_disk) kpn_X11) rfl ?_
  intro E A H ls _ C X R hl
  have hl : lv_has ls 8 [(0, .ref (h 0)), (1, .int v1), (2, .int v2)] := hl
  rw [f_X11_disk] at hf
  refine x_iload_n 1 C dX11_disk_0 hl 1 rfl rfl ?_
  refine x_i2l 2 C dX11_disk_1 rfl ?_
  refine x_lconst 3 C dX11_disk_2 (0 : Int64) kv_lconst_0 rfl ?_
  refine x_ldc2_w 6 C dX11_disk_3 (1000000 : Int64) kc_X11_441 rfl ?_
  obtain ⟨y6, hy6, hf⟩ := kx_bind hf
  refine x_callSi 9 C dX11_disk_6 X hl kl_X11_77 (c_X11_in E.2.1 D T  (v1).toInt64 (0 : Int64) (1000000 : Int64)  y6 hy6) [] rfl rfl rfl rfl rfl cb_7 rfl (fun H locs X => ?_)
  refine x_if_eq 22 12 C dX11_disk_9 rfl rfl hf (fun hf => ?_) (fun hf => ?_)
  · refine x_iconst 23 C dX11_disk_22 (-1 : Int32) kv_iconst_m1 rfl ?_
    obtain rfl := Option.some.inj hf
    exact R _ _ _ _ X dX11_disk_23
  refine x_iload_n 13 C dX11_disk_12 hl 2 rfl rfl ?_
  refine x_i2l 14 C dX11_disk_13 rfl ?_
  refine x_lconst 15 C dX11_disk_14 (0 : Int64) kv_lconst_0 rfl ?_
  refine x_lconst 16 C dX11_disk_15 (1 : Int64) kv_lconst_1 rfl ?_
  obtain ⟨y16, hy16, hf⟩ := kx_bind hf
  refine x_callSi 19 C dX11_disk_16 X hl kl_X11_77 (c_X11_in E.2.1 D T  (v2).toInt64 (0 : Int64) (1 : Int64)  y16 hy16) [] rfl rfl rfl rfl rfl cb_7 rfl (fun H locs X => ?_)
  refine x_if_ne 24 22 C dX11_disk_19 rfl rfl hf (fun hf => ?_) (fun hf => ?_)
  · refine x_iconst 25 C dX11_disk_24 (0 : Int32) kv_iconst_0 rfl ?_
    refine x_istore_n 26 C dX11_disk_25 [(3, .int (0 : Int32)), (0, .ref (h 0)), (1, .int v1), (2, .int v2)] hl rfl rfl rfl (fun ls hl => ?_)
    refine x_iconst 27 C dX11_disk_26 (0 : Int32) kv_iconst_0 rfl ?_
    refine x_istore 29 C dX11_disk_27 [(4, .int (0 : Int32)), (3, .int (0 : Int32)), (0, .ref (h 0)), (1, .int v1), (2, .int v2)] hl rfl rfl rfl (fun ls hl => ?_)
    refine x_sipush 32 C dX11_disk_29 (-1200 : Int32) kv_sipush_m1200 rfl ?_
    refine x_istore 34 C dX11_disk_32 [(5, .int (-1200 : Int32)), (4, .int (0 : Int32)), (3, .int (0 : Int32)), (0, .ref (h 0)), (1, .int v1), (2, .int v2)] hl rfl rfl rfl (fun ls hl => ?_)
    exact w_X11_disk_34 h C N x m_taped m_states m_ra m_rb m_threes m_primes m_ones m_unit m_allParts m_allNorms m_allClasses m_odd m_boxWide m_boxHigh m_boxStep m_partingMany m_qa m_qb m_la m_lb m_sa m_sb m_ta m_tb m_listed m_tells m_wanted m_found m_bits m_power2 m_rings m_ringA m_ringB m_seedNow m_tape m_has m_keptHas m_first m_second m_keptFirst m_keptSecond m_pa m_pb m_pNorm m_cubed m_isOpen m_signs m_often m_la0 m_lb0 R  N v1 v2 (0 : Int32) (0 : Int32) (-1200 : Int32) _ _ _ X (lv_sub hl [4, 5, 2, 1, 0] rfl) hf
  refine x_iconst 23 C dX11_disk_22 (-1 : Int32) kv_iconst_m1 rfl ?_
  obtain rfl := Option.some.inj hf
  exact R _ _ _ _ X dX11_disk_23
set_option maxHeartbeats 4000000 in
set_option maxRecDepth 100000 in
theorem c_X10_ringAt (l : Launch) (D : va_G) (T : KT) (h : Nat → Nat) (N : Nat) (v1 v2 v3 : Int32) (m_drawers_full m_drawers_kept : Int32) (m_drawers_partA m_drawers_partB m_drawers_keptA m_drawers_keptB m_drawers_keptFull : Nat → Int32) (m_tape_size m_tape_plain m_tape_omegas m_tape_end m_tape_place m_tape_plainTold m_tape_omegasTold : Int32) (m_tape_bytes : Nat → Int32) (m_euclid_count : Int32) (m_euclid_last_a m_euclid_last_b m_euclid_lastOfFirst_a m_euclid_lastOfFirst_b m_euclid_lastOfSecond_a m_euclid_lastOfSecond_b m_euclid_next_a m_euclid_next_b m_euclid_nextOfFirst_a m_euclid_nextOfFirst_b m_euclid_nextOfSecond_a m_euclid_nextOfSecond_b m_euclid_q_a m_euclid_q_b : Int64) (m_euclid_quotientA m_euclid_quotientB : Nat → Int64) (m_modulus_step m_modulus_width m_modulus_slant m_modulus_square_a m_modulus_square_b : Int64) (m_factors_count m_factors_threes m_factors_unit : Int32) (m_factors_primeA m_factors_primeB m_factors_norms : Nat → Int64) (m_factors_euclid_count : Int32) (m_factors_euclid_last_a m_factors_euclid_last_b m_factors_euclid_lastOfFirst_a m_factors_euclid_lastOfFirst_b m_factors_euclid_lastOfSecond_a m_factors_euclid_lastOfSecond_b m_factors_euclid_next_a m_factors_euclid_next_b m_factors_euclid_nextOfFirst_a m_factors_euclid_nextOfFirst_b m_factors_euclid_nextOfSecond_a m_factors_euclid_nextOfSecond_b m_factors_euclid_q_a m_factors_euclid_q_b : Int64) (m_factors_euclid_quotientA m_factors_euclid_quotientB : Nat → Int64) (m_factors_left_a m_factors_left_b m_factors_found_a m_factors_found_b m_factors_product_a m_factors_product_b : Int64) (m_primes_count : Int32) (m_primes_primeA m_primes_primeB : Nat → Int32) (m_primes_found_a m_primes_found_b : Int64) (m_rings_foundA m_rings_foundB m_rings_all m_rings_mostOfOneRow m_letters_count : Int32) (m_letters_bytes : Nat → Int32) (m_one_a m_one_b m_two_a m_two_b m_three_a m_three_b m_four_a m_four_b m_out_a m_out_b m_spare_a m_spare_b : Int64) (m_marks : Nat → Int32) (x : Int32 × Int32 × Int32) (hf : f_X10_ringAt N v1 v2 v3 m_rings_foundA m_rings_foundB = some x) : kx_MI l yX10_ringAt cX10_ringAt 4 (some .int) 3 74 D T [.ref (h 0), .int v1, .int v2, .int v3] (wC T h m_drawers_full m_drawers_kept m_drawers_partA m_drawers_partB m_drawers_keptA m_drawers_keptB m_drawers_keptFull m_tape_size m_tape_plain m_tape_omegas m_tape_end m_tape_place m_tape_plainTold m_tape_omegasTold m_tape_bytes m_euclid_count m_euclid_last_a m_euclid_last_b m_euclid_lastOfFirst_a m_euclid_lastOfFirst_b m_euclid_lastOfSecond_a m_euclid_lastOfSecond_b m_euclid_next_a m_euclid_next_b m_euclid_nextOfFirst_a m_euclid_nextOfFirst_b m_euclid_nextOfSecond_a m_euclid_nextOfSecond_b m_euclid_q_a m_euclid_q_b m_euclid_quotientA m_euclid_quotientB m_modulus_step m_modulus_width m_modulus_slant m_modulus_square_a m_modulus_square_b m_factors_count m_factors_threes m_factors_unit m_factors_primeA m_factors_primeB m_factors_norms m_factors_euclid_count m_factors_euclid_last_a m_factors_euclid_last_b m_factors_euclid_lastOfFirst_a m_factors_euclid_lastOfFirst_b m_factors_euclid_lastOfSecond_a m_factors_euclid_lastOfSecond_b m_factors_euclid_next_a m_factors_euclid_next_b m_factors_euclid_nextOfFirst_a m_factors_euclid_nextOfFirst_b m_factors_euclid_nextOfSecond_a m_factors_euclid_nextOfSecond_b m_factors_euclid_q_a m_factors_euclid_q_b m_factors_euclid_quotientA m_factors_euclid_quotientB m_factors_left_a m_factors_left_b m_factors_found_a m_factors_found_b m_factors_product_a m_factors_product_b m_primes_count m_primes_primeA m_primes_primeB m_primes_found_a m_primes_found_b m_rings_foundA m_rings_foundB m_rings_all m_rings_mostOfOneRow m_letters_count m_letters_bytes m_one_a m_one_b m_two_a m_two_b m_three_a m_three_b m_four_a m_four_b m_out_a m_out_b m_spare_a m_spare_b m_marks) (wC T h m_drawers_full m_drawers_kept m_drawers_partA m_drawers_partB m_drawers_keptA m_drawers_keptB m_drawers_keptFull m_tape_size m_tape_plain m_tape_omegas m_tape_end m_tape_place m_tape_plainTold m_tape_omegasTold m_tape_bytes m_euclid_count m_euclid_last_a m_euclid_last_b m_euclid_lastOfFirst_a m_euclid_lastOfFirst_b m_euclid_lastOfSecond_a m_euclid_lastOfSecond_b m_euclid_next_a m_euclid_next_b m_euclid_nextOfFirst_a m_euclid_nextOfFirst_b m_euclid_nextOfSecond_a m_euclid_nextOfSecond_b m_euclid_q_a m_euclid_q_b m_euclid_quotientA m_euclid_quotientB m_modulus_step m_modulus_width m_modulus_slant m_modulus_square_a m_modulus_square_b m_factors_count m_factors_threes m_factors_unit m_factors_primeA m_factors_primeB m_factors_norms m_factors_euclid_count m_factors_euclid_last_a m_factors_euclid_last_b m_factors_euclid_lastOfFirst_a m_factors_euclid_lastOfFirst_b m_factors_euclid_lastOfSecond_a m_factors_euclid_lastOfSecond_b m_factors_euclid_next_a m_factors_euclid_next_b m_factors_euclid_nextOfFirst_a m_factors_euclid_nextOfFirst_b m_factors_euclid_nextOfSecond_a m_factors_euclid_nextOfSecond_b m_factors_euclid_q_a m_factors_euclid_q_b m_factors_euclid_quotientA m_factors_euclid_quotientB m_factors_left_a m_factors_left_b m_factors_found_a m_factors_found_b m_factors_product_a m_factors_product_b m_primes_count m_primes_primeA m_primes_primeB m_primes_found_a m_primes_found_b x.2.1 x.2.2 m_rings_all m_rings_mostOfOneRow m_letters_count m_letters_bytes m_one_a m_one_b m_two_a m_two_b m_three_a m_three_b m_four_a m_four_b m_out_a m_out_b m_spare_a m_spare_b m_marks) x.1 := by
  refine kx_ofMI RX10 rfl (plainFor_of_name (x := yX10_ringAt) kpn_X10) rfl ?_
  intro E A H ls _ C X R hl
  have hl : lv_has ls 4 [(0, .ref (h 0)), (1, .int v1), (2, .int v2), (3, .int v3)] := hl
  rw [f_X10_ringAt] at hf
  refine x_iload_n 1 C dX10_ringAt_0 hl 1 rfl rfl ?_
  refine x_if_lt 24 4 C dX10_ringAt_1 rfl rfl hf (fun hf => ?_) (fun hf => ?_)
  · refine x_ldc 26 C dX10_ringAt_24 (-2147483648 : Int32) kc_X10_140 rfl ?_
    obtain rfl := Option.some.inj hf
    exact R _ _ _ _ X dX10_ringAt_26
  refine x_iload_n 5 C dX10_ringAt_4 hl 1 rfl rfl ?_
  refine x_ldc_w 8 C dX10_ringAt_5 (1000000 : Int32) kc_X10_431 rfl ?_
  refine x_icmp_gt 24 11 C dX10_ringAt_8 rfl rfl hf (fun hf => ?_) (fun hf => ?_)
  · refine x_ldc 26 C dX10_ringAt_24 (-2147483648 : Int32) kc_X10_140 rfl ?_
    obtain rfl := Option.some.inj hf
    exact R _ _ _ _ X dX10_ringAt_26
  refine x_iload_n 12 C dX10_ringAt_11 hl 2 rfl rfl ?_
  refine x_if_lt 24 15 C dX10_ringAt_12 rfl rfl hf (fun hf => ?_) (fun hf => ?_)
  · refine x_ldc 26 C dX10_ringAt_24 (-2147483648 : Int32) kc_X10_140 rfl ?_
    obtain rfl := Option.some.inj hf
    exact R _ _ _ _ X dX10_ringAt_26
  refine x_iload_n 16 C dX10_ringAt_15 hl 3 rfl rfl ?_
  refine x_if_lt 24 19 C dX10_ringAt_16 rfl rfl hf (fun hf => ?_) (fun hf => ?_)
  · refine x_ldc 26 C dX10_ringAt_24 (-2147483648 : Int32) kc_X10_140 rfl ?_
    obtain rfl := Option.some.inj hf
    exact R _ _ _ _ X dX10_ringAt_26
  refine x_iload_n 20 C dX10_ringAt_19 hl 3 rfl rfl ?_
  refine x_iconst 21 C dX10_ringAt_20 (1 : Int32) kv_iconst_1 rfl ?_
  refine x_icmp_le 27 24 C dX10_ringAt_21 rfl rfl hf (fun hf => ?_) (fun hf => ?_)
  · refine x_aload_n 28 C dX10_ringAt_27 hl 0 rfl rfl ?_
    refine x_get 31 C dX10_ringAt_28 X kf_X10_56 0 rfl rfl rfl ?_
    refine x_iload_n 32 C dX10_ringAt_31 hl 1 rfl rfl ?_
    refine x_iconst 33 C dX10_ringAt_32 (0 : Int32) kv_iconst_0 rfl ?_
    refine x_iload_n 34 C dX10_ringAt_33 hl 2 rfl rfl ?_
    obtain ⟨y34, hy34, hf⟩ := kx_bind hf
    refine x_callVi 37 C dX10_ringAt_34 X hl kl_X10_432 (c_X7_seek E.2.1 D T (h 42) N v1 (0 : Int32) v2 m_rings_foundA m_rings_foundB m_rings_all m_rings_mostOfOneRow y34 hy34) rfl rfl [] rfl rfl rfl rfl rfl cb_138 rfl (fun H locs X => ?_)
    refine x_iload_n 38 C dX10_ringAt_37 hl 2 rfl rfl ?_
    refine x_icmp_gt 44 41 C dX10_ringAt_38 rfl rfl hf (fun hf => ?_) (fun hf => ?_)
    · refine x_iload_n 45 C dX10_ringAt_44 hl 3 rfl rfl ?_
      refine x_if_ne 58 48 C dX10_ringAt_45 rfl rfl hf (fun hf => ?_) (fun hf => ?_)
      · refine x_aload_n 59 C dX10_ringAt_58 hl 0 rfl rfl ?_
        refine x_get 62 C dX10_ringAt_59 X kf_X10_56 0 rfl rfl rfl ?_
        refine x_get 65 C dX10_ringAt_62 X kf_X10_447 42 rfl rfl rfl ?_
        obtain rfl := Option.some.inj hf
        exact R _ _ _ _ X dX10_ringAt_65
      refine x_aload_n 49 C dX10_ringAt_48 hl 0 rfl rfl ?_
      refine x_get 52 C dX10_ringAt_49 X kf_X10_56 0 rfl rfl rfl ?_
      refine x_get 55 C dX10_ringAt_52 X kf_X10_444 42 rfl rfl rfl ?_
      refine x_goto 65 C dX10_ringAt_55 rfl ?_
      obtain rfl := Option.some.inj hf
      exact R _ _ _ _ X dX10_ringAt_65
    refine x_ldc 43 C dX10_ringAt_41 (-2147483648 : Int32) kc_X10_140 rfl ?_
    obtain rfl := Option.some.inj hf
    exact R _ _ _ _ X dX10_ringAt_43
  refine x_ldc 26 C dX10_ringAt_24 (-2147483648 : Int32) kc_X10_140 rfl ?_
  obtain rfl := Option.some.inj hf
  exact R _ _ _ _ X dX10_ringAt_26
set_option maxHeartbeats 4000000 in
set_option maxRecDepth 100000 in
theorem c_X11_ringAt (l : Launch) (D : va_G) (T : KT) (h : Nat → Nat) (N : Nat) (v1 v2 v3 : Int32) (m_taped m_states : Int32) (m_ra m_rb : Int64) (m_threes m_primes m_ones m_unit : Int32) (m_allParts m_allNorms m_allClasses : Int64) (m_odd : Int32) (m_boxWide m_boxHigh m_boxStep : Int64) (m_partingMany : Int32) (m_qa m_qb m_la m_lb m_sa m_sb m_ta m_tb : Int64) (m_listed m_tells m_wanted m_found : Int32) (m_bits : Int64) (m_power2 m_rings m_ringA m_ringB m_seedNow : Int32) (m_tape m_has m_keptHas m_first m_second m_keptFirst m_keptSecond m_pa m_pb m_pNorm m_cubed m_isOpen m_signs m_often m_la0 m_lb0 : Nat → Int32) (x : Int32 × Int32 × Int32 × Int32) (hf : f_X11_ringAt N v1 v2 v3 m_rings m_ringA m_ringB = some x) : kx_MI l yX11_ringAt cX11_ringAt 4 (some .int) 4 98 D T [.ref (h 0), .int v1, .int v2, .int v3] (wM T h m_taped m_states m_ra m_rb m_threes m_primes m_ones m_unit m_allParts m_allNorms m_allClasses m_odd m_boxWide m_boxHigh m_boxStep m_partingMany m_qa m_qb m_la m_lb m_sa m_sb m_ta m_tb m_listed m_tells m_wanted m_found m_bits m_power2 m_rings m_ringA m_ringB m_seedNow m_tape m_has m_keptHas m_first m_second m_keptFirst m_keptSecond m_pa m_pb m_pNorm m_cubed m_isOpen m_signs m_often m_la0 m_lb0) (wM T h m_taped m_states m_ra m_rb m_threes m_primes m_ones m_unit m_allParts m_allNorms m_allClasses m_odd m_boxWide m_boxHigh m_boxStep m_partingMany m_qa m_qb m_la m_lb m_sa m_sb m_ta m_tb m_listed m_tells m_wanted m_found m_bits m_power2 x.2.1 x.2.2.1 x.2.2.2 m_seedNow m_tape m_has m_keptHas m_first m_second m_keptFirst m_keptSecond m_pa m_pb m_pNorm m_cubed m_isOpen m_signs m_often m_la0 m_lb0) x.1 := by
  refine kx_ofMI RX11 rfl (plainFor_of_name (x := yX11_ringAt) kpn_X11) rfl ?_
  intro E A H ls _ C X R hl
  have hl : lv_has ls 4 [(0, .ref (h 0)), (1, .int v1), (2, .int v2), (3, .int v3)] := hl
  rw [f_X11_ringAt] at hf
  refine x_iload_n 1 C dX11_ringAt_0 hl 1 rfl rfl ?_
  refine x_i2l 2 C dX11_ringAt_1 rfl ?_
  refine x_lconst 3 C dX11_ringAt_2 (0 : Int64) kv_lconst_0 rfl ?_
  refine x_ldc2_w 6 C dX11_ringAt_3 (1000000 : Int64) kc_X11_441 rfl ?_
  obtain ⟨y6, hy6, hf⟩ := kx_bind hf
  refine x_callSi 9 C dX11_ringAt_6 X hl kl_X11_77 (c_X11_in E.2.1 D T  (v1).toInt64 (0 : Int64) (1000000 : Int64)  y6 hy6) [] rfl rfl rfl rfl rfl cb_7 rfl (fun H locs X => ?_)
  refine x_if_eq 26 12 C dX11_ringAt_9 rfl rfl hf (fun hf => ?_) (fun hf => ?_)
  · refine x_ldc 28 C dX11_ringAt_26 (-2147483648 : Int32) kc_X11_164 rfl ?_
    obtain rfl := Option.some.inj hf
    exact R _ _ _ _ X dX11_ringAt_28
  refine x_iload_n 13 C dX11_ringAt_12 hl 3 rfl rfl ?_
  refine x_i2l 14 C dX11_ringAt_13 rfl ?_
  refine x_lconst 15 C dX11_ringAt_14 (0 : Int64) kv_lconst_0 rfl ?_
  refine x_lconst 16 C dX11_ringAt_15 (1 : Int64) kv_lconst_1 rfl ?_
  obtain ⟨y16, hy16, hf⟩ := kx_bind hf
  refine x_callSi 19 C dX11_ringAt_16 X hl kl_X11_77 (c_X11_in E.2.1 D T  (v3).toInt64 (0 : Int64) (1 : Int64)  y16 hy16) [] rfl rfl rfl rfl rfl cb_7 rfl (fun H locs X => ?_)
  refine x_if_eq 26 22 C dX11_ringAt_19 rfl rfl hf (fun hf => ?_) (fun hf => ?_)
  · refine x_ldc 28 C dX11_ringAt_26 (-2147483648 : Int32) kc_X11_164 rfl ?_
    obtain rfl := Option.some.inj hf
    exact R _ _ _ _ X dX11_ringAt_28
  refine x_iload_n 23 C dX11_ringAt_22 hl 2 rfl rfl ?_
  refine x_if_ge 29 26 C dX11_ringAt_23 rfl rfl hf (fun hf => ?_) (fun hf => ?_)
  · refine x_aload_n 30 C dX11_ringAt_29 hl 0 rfl rfl ?_
    refine x_iload_n 31 C dX11_ringAt_30 hl 1 rfl rfl ?_
    refine x_iload_n 32 C dX11_ringAt_31 hl 2 rfl rfl ?_
    refine x_iconst 33 C dX11_ringAt_32 (0 : Int32) kv_iconst_0 rfl ?_
    obtain ⟨y33, hy33, hf⟩ := kx_bind hf
    refine x_callVv0 36 C dX11_ringAt_33 X hl kl_X11_443 (c_X11_laysRing E.2.1 D T h N v1 v2 (0 : Int32) m_taped m_states m_ra m_rb m_threes m_primes m_ones m_unit m_allParts m_allNorms m_allClasses m_odd m_boxWide m_boxHigh m_boxStep m_partingMany m_qa m_qb m_la m_lb m_sa m_sb m_ta m_tb m_listed m_tells m_wanted m_found m_bits m_power2 m_rings m_ringA m_ringB m_seedNow m_tape m_has m_keptHas m_first m_second m_keptFirst m_keptSecond m_pa m_pb m_pNorm m_cubed m_isOpen m_signs m_often m_la0 m_lb0 y33 hy33) rfl rfl [] rfl rfl rfl rfl rfl rfl (fun H locs X => ?_)
    refine x_iload_n 37 C dX11_ringAt_36 hl 2 rfl rfl ?_
    refine x_aload_n 38 C dX11_ringAt_37 hl 0 rfl rfl ?_
    refine x_get 41 C dX11_ringAt_38 X kf_X11_432 0 rfl rfl rfl ?_
    refine x_icmp_ge 62 44 C dX11_ringAt_41 rfl rfl hf (fun hf => ?_) (fun hf => ?_)
    · refine x_ldc 64 C dX11_ringAt_62 (-2147483648 : Int32) kc_X11_164 rfl ?_
      obtain rfl := Option.some.inj hf
      exact R _ _ _ _ X dX11_ringAt_64
    refine x_iload_n 45 C dX11_ringAt_44 hl 3 rfl rfl ?_
    refine x_if_ne 55 48 C dX11_ringAt_45 rfl rfl hf (fun hf => ?_) (fun hf => ?_)
    · refine x_aload_n 56 C dX11_ringAt_55 hl 0 rfl rfl ?_
      refine x_get 59 C dX11_ringAt_56 X kf_X11_438 0 rfl rfl rfl ?_
      refine x_goto 64 C dX11_ringAt_59 rfl ?_
      obtain rfl := Option.some.inj hf
      exact R _ _ _ _ X dX11_ringAt_64
    refine x_aload_n 49 C dX11_ringAt_48 hl 0 rfl rfl ?_
    refine x_get 52 C dX11_ringAt_49 X kf_X11_435 0 rfl rfl rfl ?_
    refine x_goto 64 C dX11_ringAt_52 rfl ?_
    obtain rfl := Option.some.inj hf
    exact R _ _ _ _ X dX11_ringAt_64
  refine x_ldc 28 C dX11_ringAt_26 (-2147483648 : Int32) kc_X11_164 rfl ?_
  obtain rfl := Option.some.inj hf
  exact R _ _ _ _ X dX11_ringAt_28
set_option maxHeartbeats 4000000 in
set_option maxRecDepth 100000 in
theorem c_X10_nextDraw (l : Launch) (D : va_G) (T : KT)  (v0 : Int32)  (x : Int32) (hf : f_X10_nextDraw v0 = some x) : kx_MI l yX10_nextDraw cX10_nextDraw 1 (some .int) 0 0 D T [.int v0] (w4_ T  ) (w4_ T  ) x := by
  refine kx_ofMI RX10 rfl (plainFor_of_name (x := yX10_nextDraw) kpn_X10) rfl ?_
  intro E A H ls _ C X R hl
  have hl : lv_has ls 1 [(0, .int v0)] := hl
  rw [f_X10_nextDraw] at hf
  refine x_sipush 3 C dX10_nextDraw_0 (25173 : Int32) kv_sipush_25173 rfl ?_
  refine x_iload_n 4 C dX10_nextDraw_3 hl 0 rfl rfl ?_
  refine x_imul 5 C dX10_nextDraw_4 rfl ?_
  refine x_sipush 8 C dX10_nextDraw_5 (13849 : Int32) kv_sipush_13849 rfl ?_
  refine x_iadd 9 C dX10_nextDraw_8 rfl ?_
  refine x_ldc_w 12 C dX10_nextDraw_9 (65535 : Int32) kc_X10_450 rfl ?_
  refine x_iand 13 C dX10_nextDraw_12 rfl ?_
  obtain rfl := Option.some.inj hf
  exact R _ _ _ _ X dX10_nextDraw_13
set_option maxHeartbeats 4000000 in
set_option maxRecDepth 100000 in
theorem c_X10_drawn (l : Launch) (D : va_G) (T : KT) (h : Nat → Nat) (v1 v2 v3 : Int32) (m_drawers_full m_drawers_kept : Int32) (m_drawers_partA m_drawers_partB m_drawers_keptA m_drawers_keptB m_drawers_keptFull : Nat → Int32) (m_tape_size m_tape_plain m_tape_omegas m_tape_end m_tape_place m_tape_plainTold m_tape_omegasTold : Int32) (m_tape_bytes : Nat → Int32) (m_euclid_count : Int32) (m_euclid_last_a m_euclid_last_b m_euclid_lastOfFirst_a m_euclid_lastOfFirst_b m_euclid_lastOfSecond_a m_euclid_lastOfSecond_b m_euclid_next_a m_euclid_next_b m_euclid_nextOfFirst_a m_euclid_nextOfFirst_b m_euclid_nextOfSecond_a m_euclid_nextOfSecond_b m_euclid_q_a m_euclid_q_b : Int64) (m_euclid_quotientA m_euclid_quotientB : Nat → Int64) (m_modulus_step m_modulus_width m_modulus_slant m_modulus_square_a m_modulus_square_b : Int64) (m_factors_count m_factors_threes m_factors_unit : Int32) (m_factors_primeA m_factors_primeB m_factors_norms : Nat → Int64) (m_factors_euclid_count : Int32) (m_factors_euclid_last_a m_factors_euclid_last_b m_factors_euclid_lastOfFirst_a m_factors_euclid_lastOfFirst_b m_factors_euclid_lastOfSecond_a m_factors_euclid_lastOfSecond_b m_factors_euclid_next_a m_factors_euclid_next_b m_factors_euclid_nextOfFirst_a m_factors_euclid_nextOfFirst_b m_factors_euclid_nextOfSecond_a m_factors_euclid_nextOfSecond_b m_factors_euclid_q_a m_factors_euclid_q_b : Int64) (m_factors_euclid_quotientA m_factors_euclid_quotientB : Nat → Int64) (m_factors_left_a m_factors_left_b m_factors_found_a m_factors_found_b m_factors_product_a m_factors_product_b : Int64) (m_primes_count : Int32) (m_primes_primeA m_primes_primeB : Nat → Int32) (m_primes_found_a m_primes_found_b : Int64) (m_rings_foundA m_rings_foundB m_rings_all m_rings_mostOfOneRow m_letters_count : Int32) (m_letters_bytes : Nat → Int32) (m_one_a m_one_b m_two_a m_two_b m_three_a m_three_b m_four_a m_four_b m_out_a m_out_b m_spare_a m_spare_b : Int64) (m_marks : Nat → Int32) (x : Int32 × Int32 × (Nat → Int32) × (Nat → Int32)) (hf : f_X10_drawn v1 v2 v3 m_drawers_full m_drawers_partA m_drawers_partB = some x) : kx_MI l yX10_drawn cX10_drawn 8 (some .int) 2 43 D T [.ref (h 0), .int v1, .int v2, .int v3] (wC T h m_drawers_full m_drawers_kept m_drawers_partA m_drawers_partB m_drawers_keptA m_drawers_keptB m_drawers_keptFull m_tape_size m_tape_plain m_tape_omegas m_tape_end m_tape_place m_tape_plainTold m_tape_omegasTold m_tape_bytes m_euclid_count m_euclid_last_a m_euclid_last_b m_euclid_lastOfFirst_a m_euclid_lastOfFirst_b m_euclid_lastOfSecond_a m_euclid_lastOfSecond_b m_euclid_next_a m_euclid_next_b m_euclid_nextOfFirst_a m_euclid_nextOfFirst_b m_euclid_nextOfSecond_a m_euclid_nextOfSecond_b m_euclid_q_a m_euclid_q_b m_euclid_quotientA m_euclid_quotientB m_modulus_step m_modulus_width m_modulus_slant m_modulus_square_a m_modulus_square_b m_factors_count m_factors_threes m_factors_unit m_factors_primeA m_factors_primeB m_factors_norms m_factors_euclid_count m_factors_euclid_last_a m_factors_euclid_last_b m_factors_euclid_lastOfFirst_a m_factors_euclid_lastOfFirst_b m_factors_euclid_lastOfSecond_a m_factors_euclid_lastOfSecond_b m_factors_euclid_next_a m_factors_euclid_next_b m_factors_euclid_nextOfFirst_a m_factors_euclid_nextOfFirst_b m_factors_euclid_nextOfSecond_a m_factors_euclid_nextOfSecond_b m_factors_euclid_q_a m_factors_euclid_q_b m_factors_euclid_quotientA m_factors_euclid_quotientB m_factors_left_a m_factors_left_b m_factors_found_a m_factors_found_b m_factors_product_a m_factors_product_b m_primes_count m_primes_primeA m_primes_primeB m_primes_found_a m_primes_found_b m_rings_foundA m_rings_foundB m_rings_all m_rings_mostOfOneRow m_letters_count m_letters_bytes m_one_a m_one_b m_two_a m_two_b m_three_a m_three_b m_four_a m_four_b m_out_a m_out_b m_spare_a m_spare_b m_marks) (wC T h x.2.1 m_drawers_kept x.2.2.1 x.2.2.2 m_drawers_keptA m_drawers_keptB m_drawers_keptFull m_tape_size m_tape_plain m_tape_omegas m_tape_end m_tape_place m_tape_plainTold m_tape_omegasTold m_tape_bytes m_euclid_count m_euclid_last_a m_euclid_last_b m_euclid_lastOfFirst_a m_euclid_lastOfFirst_b m_euclid_lastOfSecond_a m_euclid_lastOfSecond_b m_euclid_next_a m_euclid_next_b m_euclid_nextOfFirst_a m_euclid_nextOfFirst_b m_euclid_nextOfSecond_a m_euclid_nextOfSecond_b m_euclid_q_a m_euclid_q_b m_euclid_quotientA m_euclid_quotientB m_modulus_step m_modulus_width m_modulus_slant m_modulus_square_a m_modulus_square_b m_factors_count m_factors_threes m_factors_unit m_factors_primeA m_factors_primeB m_factors_norms m_factors_euclid_count m_factors_euclid_last_a m_factors_euclid_last_b m_factors_euclid_lastOfFirst_a m_factors_euclid_lastOfFirst_b m_factors_euclid_lastOfSecond_a m_factors_euclid_lastOfSecond_b m_factors_euclid_next_a m_factors_euclid_next_b m_factors_euclid_nextOfFirst_a m_factors_euclid_nextOfFirst_b m_factors_euclid_nextOfSecond_a m_factors_euclid_nextOfSecond_b m_factors_euclid_q_a m_factors_euclid_q_b m_factors_euclid_quotientA m_factors_euclid_quotientB m_factors_left_a m_factors_left_b m_factors_found_a m_factors_found_b m_factors_product_a m_factors_product_b m_primes_count m_primes_primeA m_primes_primeB m_primes_found_a m_primes_found_b m_rings_foundA m_rings_foundB m_rings_all m_rings_mostOfOneRow m_letters_count m_letters_bytes m_one_a m_one_b m_two_a m_two_b m_three_a m_three_b m_four_a m_four_b m_out_a m_out_b m_spare_a m_spare_b m_marks) x.1 := by
  refine kx_ofMI RX10 rfl (plainFor_of_name (x := yX10_drawn) kpn_X10) rfl ?_
  intro E A H ls _ C X R hl
  have hl : lv_has ls 8 [(0, .ref (h 0)), (1, .int v1), (2, .int v2), (3, .int v3)] := hl
  rw [f_X10_drawn] at hf
  refine x_iload_n 1 C dX10_drawn_0 hl 1 rfl rfl ?_
  obtain ⟨y1, hy1, hf⟩ := kx_bind hf
  refine x_callSi 4 C dX10_drawn_1 X hl kl_X10_105 (c_X0_isOne E.2.1 D T  v1  y1 hy1) [] rfl rfl rfl rfl rfl cb_2 rfl (fun H locs X => ?_)
  refine x_if_eq 19 7 C dX10_drawn_4 rfl rfl hf (fun hf => ?_) (fun hf => ?_)
  · refine x_iconst 20 C dX10_drawn_19 (-1 : Int32) kv_iconst_m1 rfl ?_
    obtain rfl := Option.some.inj hf
    exact R _ _ _ _ X dX10_drawn_20
  refine x_iload_n 8 C dX10_drawn_7 hl 3 rfl rfl ?_
  refine x_iconst 9 C dX10_drawn_8 (1 : Int32) kv_iconst_1 rfl ?_
  refine x_icmp_lt 19 12 C dX10_drawn_9 rfl rfl hf (fun hf => ?_) (fun hf => ?_)
  · refine x_iconst 20 C dX10_drawn_19 (-1 : Int32) kv_iconst_m1 rfl ?_
    obtain rfl := Option.some.inj hf
    exact R _ _ _ _ X dX10_drawn_20
  refine x_iload_n 13 C dX10_drawn_12 hl 3 rfl rfl ?_
  refine x_sipush 16 C dX10_drawn_13 (1000 : Int32) kv_sipush_1000 rfl ?_
  refine x_icmp_le 21 19 C dX10_drawn_16 rfl rfl hf (fun hf => ?_) (fun hf => ?_)
  · refine x_iconst 22 C dX10_drawn_21 (2 : Int32) kv_iconst_2 rfl ?_
    refine x_iload_n 23 C dX10_drawn_22 hl 3 rfl rfl ?_
    refine x_imul 24 C dX10_drawn_23 rfl ?_
    refine x_iconst 25 C dX10_drawn_24 (1 : Int32) kv_iconst_1 rfl ?_
    refine x_iadd 26 C dX10_drawn_25 rfl ?_
    refine x_istore 28 C dX10_drawn_26 [(4, .int (((2 : Int32) * v3) + (1 : Int32))), (0, .ref (h 0)), (1, .int v1), (2, .int v2), (3, .int v3)] hl rfl rfl rfl (fun ls hl => ?_)
    refine x_iload_n 29 C dX10_drawn_28 hl 3 rfl rfl ?_
    refine x_ldc_w 32 C dX10_drawn_29 (65535 : Int32) kc_X10_450 rfl ?_
    refine x_iand 33 C dX10_drawn_32 rfl ?_
    obtain ⟨y33, hy33, hf⟩ := kx_bind hf
    refine x_callSi 36 C dX10_drawn_33 X hl kl_X10_451 (c_X10_nextDraw E.2.1 D T  (v2 &&& (65535 : Int32))  y33 hy33) [] rfl rfl rfl rfl rfl cb_2 rfl (fun H locs X => ?_)
    refine x_istore 38 C dX10_drawn_36 [(5, .int y33), (4, .int (((2 : Int32) * v3) + (1 : Int32))), (0, .ref (h 0)), (1, .int v1), (2, .int v2), (3, .int v3)] hl rfl rfl rfl (fun ls hl => ?_)
    refine x_iload 40 C dX10_drawn_38 hl 0 rfl rfl ?_
    refine x_iconst 41 C dX10_drawn_40 (4 : Int32) kv_iconst_4 rfl ?_
    refine x_idiv0 42 C dX10_drawn_41 kz_i_4 rfl ?_
    refine x_iload 44 C dX10_drawn_42 hl 1 rfl rfl ?_
    refine x_irem 45 C dX10_drawn_44 hf rfl (fun hf => ?_)
    refine x_iload_n 46 C dX10_drawn_45 hl 5 rfl rfl ?_
    refine x_isub 47 C dX10_drawn_46 rfl ?_
    refine x_istore 49 C dX10_drawn_47 [(6, .int (((y33 / (4 : Int32)) - (y33 / (4 : Int32)) / (((2 : Int32) * v3) + (1 : Int32)) * (((2 : Int32) * v3) + (1 : Int32))) - v3)), (5, .int y33), (4, .int (((2 : Int32) * v3) + (1 : Int32))), (0, .ref (h 0)), (1, .int v1), (2, .int v2), (3, .int v3)] hl rfl rfl rfl (fun ls hl => ?_)
    refine x_iload 51 C dX10_drawn_49 hl 1 rfl rfl ?_
    obtain ⟨y51, hy51, hf⟩ := kx_bind hf
    refine x_callSi 54 C dX10_drawn_51 X hl kl_X10_451 (c_X10_nextDraw E.2.1 D T  y33  y51 hy51) [] rfl rfl rfl rfl rfl cb_2 rfl (fun H locs X => ?_)
    refine x_istore 56 C dX10_drawn_54 [(5, .int y51), (6, .int (((y33 / (4 : Int32)) - (y33 / (4 : Int32)) / (((2 : Int32) * v3) + (1 : Int32)) * (((2 : Int32) * v3) + (1 : Int32))) - v3)), (4, .int (((2 : Int32) * v3) + (1 : Int32))), (0, .ref (h 0)), (1, .int v1), (2, .int v2), (3, .int v3)] hl rfl rfl rfl (fun ls hl => ?_)
    refine x_iload 58 C dX10_drawn_56 hl 0 rfl rfl ?_
    refine x_iconst 59 C dX10_drawn_58 (4 : Int32) kv_iconst_4 rfl ?_
    refine x_idiv0 60 C dX10_drawn_59 kz_i_4 rfl ?_
    refine x_iload 62 C dX10_drawn_60 hl 2 rfl rfl ?_
    refine x_irem 63 C dX10_drawn_62 hf rfl (fun hf => ?_)
    refine x_iload_n 64 C dX10_drawn_63 hl 6 rfl rfl ?_
    refine x_isub 65 C dX10_drawn_64 rfl ?_
    refine x_istore 67 C dX10_drawn_65 [(7, .int (((y51 / (4 : Int32)) - (y51 / (4 : Int32)) / (((2 : Int32) * v3) + (1 : Int32)) * (((2 : Int32) * v3) + (1 : Int32))) - v3)), (5, .int y51), (6, .int (((y33 / (4 : Int32)) - (y33 / (4 : Int32)) / (((2 : Int32) * v3) + (1 : Int32)) * (((2 : Int32) * v3) + (1 : Int32))) - v3)), (4, .int (((2 : Int32) * v3) + (1 : Int32))), (0, .ref (h 0)), (1, .int v1), (2, .int v2), (3, .int v3)] hl rfl rfl rfl (fun ls hl => ?_)
    refine x_aload_n 68 C dX10_drawn_67 hl 4 rfl rfl ?_
    refine x_get 71 C dX10_drawn_68 X kf_X10_12 0 rfl rfl rfl ?_
    refine x_iload_n 72 C dX10_drawn_71 hl 5 rfl rfl ?_
    refine x_iload 74 C dX10_drawn_72 hl 2 rfl rfl ?_
    refine x_iload 76 C dX10_drawn_74 hl 0 rfl rfl ?_
    obtain ⟨y76, hy76, hf⟩ := kx_bind hf
    refine x_callVv 79 C dX10_drawn_76 X hl kl_X10_118 (c_X0_fill E.2.1 D T (h 1) (h 2) (h 3) (h 4) (h 5) (h 6) v1 (((y33 / (4 : Int32)) - (y33 / (4 : Int32)) / (((2 : Int32) * v3) + (1 : Int32)) * (((2 : Int32) * v3) + (1 : Int32))) - v3) (((y51 / (4 : Int32)) - (y51 / (4 : Int32)) / (((2 : Int32) * v3) + (1 : Int32)) * (((2 : Int32) * v3) + (1 : Int32))) - v3) m_drawers_full m_drawers_kept m_drawers_partA m_drawers_partB y76 hy76) rfl rfl [] rfl rfl rfl rfl rfl cb_3 rfl (fun H locs X => ?_)
    refine x_iload 81 C dX10_drawn_79 hl 1 rfl rfl ?_
    obtain rfl := Option.some.inj hf
    exact R _ _ _ _ X dX10_drawn_81
  refine x_iconst 20 C dX10_drawn_19 (-1 : Int32) kv_iconst_m1 rfl ?_
  obtain rfl := Option.some.inj hf
  exact R _ _ _ _ X dX10_drawn_20
set_option maxHeartbeats 4000000 in
set_option maxRecDepth 100000 in
theorem c_X11_draw (l : Launch) (D : va_G) (T : KT) (h : Nat → Nat) (v1 : Int32) (m_taped m_states : Int32) (m_ra m_rb : Int64) (m_threes m_primes m_ones m_unit : Int32) (m_allParts m_allNorms m_allClasses : Int64) (m_odd : Int32) (m_boxWide m_boxHigh m_boxStep : Int64) (m_partingMany : Int32) (m_qa m_qb m_la m_lb m_sa m_sb m_ta m_tb : Int64) (m_listed m_tells m_wanted m_found : Int32) (m_bits : Int64) (m_power2 m_rings m_ringA m_ringB m_seedNow : Int32) (m_tape m_has m_keptHas m_first m_second m_keptFirst m_keptSecond m_pa m_pb m_pNorm m_cubed m_isOpen m_signs m_often m_la0 m_lb0 : Nat → Int32) (x : Int32 × Int32) (hf : f_X11_draw v1 m_seedNow = some x) : kx_MI l yX11_draw cX11_draw 2 (some .int) 0 0 D T [.ref (h 0), .int v1] (wM T h m_taped m_states m_ra m_rb m_threes m_primes m_ones m_unit m_allParts m_allNorms m_allClasses m_odd m_boxWide m_boxHigh m_boxStep m_partingMany m_qa m_qb m_la m_lb m_sa m_sb m_ta m_tb m_listed m_tells m_wanted m_found m_bits m_power2 m_rings m_ringA m_ringB m_seedNow m_tape m_has m_keptHas m_first m_second m_keptFirst m_keptSecond m_pa m_pb m_pNorm m_cubed m_isOpen m_signs m_often m_la0 m_lb0) (wM T h m_taped m_states m_ra m_rb m_threes m_primes m_ones m_unit m_allParts m_allNorms m_allClasses m_odd m_boxWide m_boxHigh m_boxStep m_partingMany m_qa m_qb m_la m_lb m_sa m_sb m_ta m_tb m_listed m_tells m_wanted m_found m_bits m_power2 m_rings m_ringA m_ringB x.2 m_tape m_has m_keptHas m_first m_second m_keptFirst m_keptSecond m_pa m_pb m_pNorm m_cubed m_isOpen m_signs m_often m_la0 m_lb0) x.1 := by
  refine kx_ofMI RX11 rfl (plainFor_of_name (x := yX11_draw) kpn_X11) rfl ?_
  intro E A H ls _ C X R hl
  have hl : lv_has ls 2 [(0, .ref (h 0)), (1, .int v1)] := hl
  rw [f_X11_draw] at hf
  refine x_aload_n 1 C dX11_draw_0 hl 0 rfl rfl ?_
  refine x_sipush 4 C dX11_draw_1 (25173 : Int32) kv_sipush_25173 rfl ?_
  refine x_aload_n 5 C dX11_draw_4 hl 0 rfl rfl ?_
  refine x_get 8 C dX11_draw_5 X kf_X11_447 0 rfl rfl rfl ?_
  refine x_imul 9 C dX11_draw_8 rfl ?_
  refine x_sipush 12 C dX11_draw_9 (13849 : Int32) kv_sipush_13849 rfl ?_
  refine x_iadd 13 C dX11_draw_12 rfl ?_
  refine x_ldc_w 16 C dX11_draw_13 (65536 : Int32) kc_X11_450 rfl ?_
  refine x_irem0 17 C dX11_draw_16 kz_i_65536 rfl ?_
  refine x_put 20 C dX11_draw_17 X kp_X11_447 0 rfl rfl rfl rfl (wM T h m_taped m_states m_ra m_rb m_threes m_primes m_ones m_unit m_allParts m_allNorms m_allClasses m_odd m_boxWide m_boxHigh m_boxStep m_partingMany m_qa m_qb m_la m_lb m_sa m_sb m_ta m_tb m_listed m_tells m_wanted m_found m_bits m_power2 m_rings m_ringA m_ringB ((((25173 : Int32) * m_seedNow) + (13849 : Int32)) - (((25173 : Int32) * m_seedNow) + (13849 : Int32)) / (65536 : Int32) * (65536 : Int32)) m_tape m_has m_keptHas m_first m_second m_keptFirst m_keptSecond m_pa m_pb m_pNorm m_cubed m_isOpen m_signs m_often m_la0 m_lb0) rfl rfl (fun H locs X => ?_)
  refine x_aload_n 21 C dX11_draw_20 hl 0 rfl rfl ?_
  refine x_get 24 C dX11_draw_21 X kf_X11_447 0 rfl rfl rfl ?_
  refine x_iconst 25 C dX11_draw_24 (4 : Int32) kv_iconst_4 rfl ?_
  refine x_idiv0 26 C dX11_draw_25 kz_i_4 rfl ?_
  refine x_iload_n 27 C dX11_draw_26 hl 1 rfl rfl ?_
  refine x_irem 28 C dX11_draw_27 hf rfl (fun hf => ?_)
  obtain rfl := Option.some.inj hf
  exact R _ _ _ _ X dX11_draw_28
set_option maxHeartbeats 4000000 in
set_option maxRecDepth 100000 in
theorem c_X11_drawn (l : Launch) (D : va_G) (T : KT) (h : Nat → Nat) (v1 v2 v3 : Int32) (m_taped m_states : Int32) (m_ra m_rb : Int64) (m_threes m_primes m_ones m_unit : Int32) (m_allParts m_allNorms m_allClasses : Int64) (m_odd : Int32) (m_boxWide m_boxHigh m_boxStep : Int64) (m_partingMany : Int32) (m_qa m_qb m_la m_lb m_sa m_sb m_ta m_tb : Int64) (m_listed m_tells m_wanted m_found : Int32) (m_bits : Int64) (m_power2 m_rings m_ringA m_ringB m_seedNow : Int32) (m_tape m_has m_keptHas m_first m_second m_keptFirst m_keptSecond m_pa m_pb m_pNorm m_cubed m_isOpen m_signs m_often m_la0 m_lb0 : Nat → Int32) (x : Int32 × Int32 × (Nat → Int32) × (Nat → Int32) × (Nat → Int32)) (hf : f_X11_drawn v1 v2 v3 m_seedNow m_has m_first m_second = some x) : kx_MI l yX11_drawn cX11_drawn 6 (some .int) 2 45 D T [.ref (h 0), .int v1, .int v2, .int v3] (wM T h m_taped m_states m_ra m_rb m_threes m_primes m_ones m_unit m_allParts m_allNorms m_allClasses m_odd m_boxWide m_boxHigh m_boxStep m_partingMany m_qa m_qb m_la m_lb m_sa m_sb m_ta m_tb m_listed m_tells m_wanted m_found m_bits m_power2 m_rings m_ringA m_ringB m_seedNow m_tape m_has m_keptHas m_first m_second m_keptFirst m_keptSecond m_pa m_pb m_pNorm m_cubed m_isOpen m_signs m_often m_la0 m_lb0) (wM T h m_taped m_states m_ra m_rb m_threes m_primes m_ones m_unit m_allParts m_allNorms m_allClasses m_odd m_boxWide m_boxHigh m_boxStep m_partingMany m_qa m_qb m_la m_lb m_sa m_sb m_ta m_tb m_listed m_tells m_wanted m_found m_bits m_power2 m_rings m_ringA m_ringB x.2.1 m_tape x.2.2.1 m_keptHas x.2.2.2.1 x.2.2.2.2 m_keptFirst m_keptSecond m_pa m_pb m_pNorm m_cubed m_isOpen m_signs m_often m_la0 m_lb0) x.1 := by
  refine kx_ofMI RX11 rfl (plainFor_of_name (x := yX11_drawn) kpn_X11) rfl ?_
  intro E A H ls _ C X R hl
  have hl : lv_has ls 6 [(0, .ref (h 0)), (1, .int v1), (2, .int v2), (3, .int v3)] := hl
  rw [f_X11_drawn] at hf
  refine x_iload_n 1 C dX11_drawn_0 hl 1 rfl rfl ?_
  obtain ⟨y1, hy1, hf⟩ := kx_bind hf
  refine x_callSi 4 C dX11_drawn_1 X hl kl_X11_85 (c_X11_isDrawer E.2.1 D T  v1  y1 hy1) [] rfl rfl rfl rfl rfl cb_7 rfl (fun H locs X => ?_)
  refine x_if_eq 19 7 C dX11_drawn_4 rfl rfl hf (fun hf => ?_) (fun hf => ?_)
  · refine x_iconst 20 C dX11_drawn_19 (-1 : Int32) kv_iconst_m1 rfl ?_
    obtain rfl := Option.some.inj hf
    exact R _ _ _ _ X dX11_drawn_20
  refine x_iload_n 8 C dX11_drawn_7 hl 3 rfl rfl ?_
  refine x_i2l 9 C dX11_drawn_8 rfl ?_
  refine x_lconst 10 C dX11_drawn_9 (1 : Int64) kv_lconst_1 rfl ?_
  refine x_ldc2_w 13 C dX11_drawn_10 (1000 : Int64) kc_X11_427 rfl ?_
  obtain ⟨y13, hy13, hf⟩ := kx_bind hf
  refine x_callSi 16 C dX11_drawn_13 X hl kl_X11_77 (c_X11_in E.2.1 D T  (v3).toInt64 (1 : Int64) (1000 : Int64)  y13 hy13) [] rfl rfl rfl rfl rfl cb_7 rfl (fun H locs X => ?_)
  refine x_if_ne 21 19 C dX11_drawn_16 rfl rfl hf (fun hf => ?_) (fun hf => ?_)
  · refine x_aload_n 22 C dX11_drawn_21 hl 0 rfl rfl ?_
    refine x_iload_n 23 C dX11_drawn_22 hl 2 rfl rfl ?_
    refine x_ldc_w 26 C dX11_drawn_23 (65535 : Int32) kc_X11_451 rfl ?_
    refine x_iand 27 C dX11_drawn_26 rfl ?_
    refine x_put 30 C dX11_drawn_27 X kp_X11_447 0 rfl rfl rfl rfl (wM T h m_taped m_states m_ra m_rb m_threes m_primes m_ones m_unit m_allParts m_allNorms m_allClasses m_odd m_boxWide m_boxHigh m_boxStep m_partingMany m_qa m_qb m_la m_lb m_sa m_sb m_ta m_tb m_listed m_tells m_wanted m_found m_bits m_power2 m_rings m_ringA m_ringB (v2 &&& (65535 : Int32)) m_tape m_has m_keptHas m_first m_second m_keptFirst m_keptSecond m_pa m_pb m_pNorm m_cubed m_isOpen m_signs m_often m_la0 m_lb0) rfl rfl (fun H locs X => ?_)
    refine x_aload_n 31 C dX11_drawn_30 hl 0 rfl rfl ?_
    refine x_iconst 32 C dX11_drawn_31 (2 : Int32) kv_iconst_2 rfl ?_
    refine x_iload_n 33 C dX11_drawn_32 hl 3 rfl rfl ?_
    refine x_imul 34 C dX11_drawn_33 rfl ?_
    refine x_iconst 35 C dX11_drawn_34 (1 : Int32) kv_iconst_1 rfl ?_
    refine x_iadd 36 C dX11_drawn_35 rfl ?_
    obtain ⟨y36, hy36, hf⟩ := kx_bind hf
    refine x_callVi0 39 C dX11_drawn_36 X hl kl_X11_452 (c_X11_draw E.2.1 D T h (((2 : Int32) * v3) + (1 : Int32)) m_taped m_states m_ra m_rb m_threes m_primes m_ones m_unit m_allParts m_allNorms m_allClasses m_odd m_boxWide m_boxHigh m_boxStep m_partingMany m_qa m_qb m_la m_lb m_sa m_sb m_ta m_tb m_listed m_tells m_wanted m_found m_bits m_power2 m_rings m_ringA m_ringB (v2 &&& (65535 : Int32)) m_tape m_has m_keptHas m_first m_second m_keptFirst m_keptSecond m_pa m_pb m_pNorm m_cubed m_isOpen m_signs m_often m_la0 m_lb0 y36 hy36) rfl rfl [] rfl rfl rfl rfl rfl rfl (fun H locs X => ?_)
    refine x_iload_n 40 C dX11_drawn_39 hl 3 rfl rfl ?_
    refine x_isub 41 C dX11_drawn_40 rfl ?_
    refine x_istore 43 C dX11_drawn_41 [(4, .int (y36.1 - v3)), (0, .ref (h 0)), (1, .int v1), (2, .int v2), (3, .int v3)] hl rfl rfl rfl (fun ls hl => ?_)
    refine x_aload_n 44 C dX11_drawn_43 hl 1 rfl rfl ?_
    refine x_iconst 45 C dX11_drawn_44 (2 : Int32) kv_iconst_2 rfl ?_
    refine x_iload_n 46 C dX11_drawn_45 hl 4 rfl rfl ?_
    refine x_imul 47 C dX11_drawn_46 rfl ?_
    refine x_iconst 48 C dX11_drawn_47 (1 : Int32) kv_iconst_1 rfl ?_
    refine x_iadd 49 C dX11_drawn_48 rfl ?_
    obtain ⟨y49, hy49, hf⟩ := kx_bind hf
    refine x_callVi0 52 C dX11_drawn_49 X hl kl_X11_452 (c_X11_draw E.2.1 D T h (((2 : Int32) * v3) + (1 : Int32)) m_taped m_states m_ra m_rb m_threes m_primes m_ones m_unit m_allParts m_allNorms m_allClasses m_odd m_boxWide m_boxHigh m_boxStep m_partingMany m_qa m_qb m_la m_lb m_sa m_sb m_ta m_tb m_listed m_tells m_wanted m_found m_bits m_power2 m_rings m_ringA m_ringB y36.2 m_tape m_has m_keptHas m_first m_second m_keptFirst m_keptSecond m_pa m_pb m_pNorm m_cubed m_isOpen m_signs m_often m_la0 m_lb0 y49 hy49) rfl rfl [] rfl rfl rfl rfl rfl rfl (fun H locs X => ?_)
    refine x_iload_n 53 C dX11_drawn_52 hl 4 rfl rfl ?_
    refine x_isub 54 C dX11_drawn_53 rfl ?_
    refine x_istore 56 C dX11_drawn_54 [(5, .int (y49.1 - v3)), (4, .int (y36.1 - v3)), (0, .ref (h 0)), (1, .int v1), (2, .int v2), (3, .int v3)] hl rfl rfl rfl (fun ls hl => ?_)
    refine x_aload_n 57 C dX11_drawn_56 hl 2 rfl rfl ?_
    refine x_iload_n 58 C dX11_drawn_57 hl 3 rfl rfl ?_
    refine x_iload 60 C dX11_drawn_58 hl 1 rfl rfl ?_
    refine x_i2l 61 C dX11_drawn_60 rfl ?_
    refine x_iload 63 C dX11_drawn_61 hl 0 rfl rfl ?_
    refine x_i2l 64 C dX11_drawn_63 rfl ?_
    obtain ⟨y64, hy64, hf⟩ := kx_bind hf
    refine x_callVv0 67 C dX11_drawn_64 X hl kl_X11_93 (c_X11_puts E.2.1 D T h v1 ((y36.1 - v3)).toInt64 ((y49.1 - v3)).toInt64 m_taped m_states m_ra m_rb m_threes m_primes m_ones m_unit m_allParts m_allNorms m_allClasses m_odd m_boxWide m_boxHigh m_boxStep m_partingMany m_qa m_qb m_la m_lb m_sa m_sb m_ta m_tb m_listed m_tells m_wanted m_found m_bits m_power2 m_rings m_ringA m_ringB y49.2 m_tape m_has m_keptHas m_first m_second m_keptFirst m_keptSecond m_pa m_pb m_pNorm m_cubed m_isOpen m_signs m_often m_la0 m_lb0 y64 hy64) rfl rfl [] rfl rfl rfl rfl rfl rfl (fun H locs X => ?_)
    refine x_aload_n 68 C dX11_drawn_67 hl 2 rfl rfl ?_
    refine x_get 71 C dX11_drawn_68 X kf_X11_447 0 rfl rfl rfl ?_
    obtain rfl := Option.some.inj hf
    exact R _ _ _ _ X dX11_drawn_71
  refine x_iconst 20 C dX11_drawn_19 (-1 : Int32) kv_iconst_m1 rfl ?_
  obtain rfl := Option.some.inj hf
  exact R _ _ _ _ X dX11_drawn_20
set_option maxHeartbeats 4000000 in
set_option maxRecDepth 100000 in
theorem c_X10_count (l : Launch) (D : va_G) (T : KT) (h : Nat → Nat) (v1 : Int32) (m_drawers_full m_drawers_kept : Int32) (m_drawers_partA m_drawers_partB m_drawers_keptA m_drawers_keptB m_drawers_keptFull : Nat → Int32) (m_tape_size m_tape_plain m_tape_omegas m_tape_end m_tape_place m_tape_plainTold m_tape_omegasTold : Int32) (m_tape_bytes : Nat → Int32) (m_euclid_count : Int32) (m_euclid_last_a m_euclid_last_b m_euclid_lastOfFirst_a m_euclid_lastOfFirst_b m_euclid_lastOfSecond_a m_euclid_lastOfSecond_b m_euclid_next_a m_euclid_next_b m_euclid_nextOfFirst_a m_euclid_nextOfFirst_b m_euclid_nextOfSecond_a m_euclid_nextOfSecond_b m_euclid_q_a m_euclid_q_b : Int64) (m_euclid_quotientA m_euclid_quotientB : Nat → Int64) (m_modulus_step m_modulus_width m_modulus_slant m_modulus_square_a m_modulus_square_b : Int64) (m_factors_count m_factors_threes m_factors_unit : Int32) (m_factors_primeA m_factors_primeB m_factors_norms : Nat → Int64) (m_factors_euclid_count : Int32) (m_factors_euclid_last_a m_factors_euclid_last_b m_factors_euclid_lastOfFirst_a m_factors_euclid_lastOfFirst_b m_factors_euclid_lastOfSecond_a m_factors_euclid_lastOfSecond_b m_factors_euclid_next_a m_factors_euclid_next_b m_factors_euclid_nextOfFirst_a m_factors_euclid_nextOfFirst_b m_factors_euclid_nextOfSecond_a m_factors_euclid_nextOfSecond_b m_factors_euclid_q_a m_factors_euclid_q_b : Int64) (m_factors_euclid_quotientA m_factors_euclid_quotientB : Nat → Int64) (m_factors_left_a m_factors_left_b m_factors_found_a m_factors_found_b m_factors_product_a m_factors_product_b : Int64) (m_primes_count : Int32) (m_primes_primeA m_primes_primeB : Nat → Int32) (m_primes_found_a m_primes_found_b : Int64) (m_rings_foundA m_rings_foundB m_rings_all m_rings_mostOfOneRow m_letters_count : Int32) (m_letters_bytes : Nat → Int32) (m_one_a m_one_b m_two_a m_two_b m_three_a m_three_b m_four_a m_four_b m_out_a m_out_b m_spare_a m_spare_b : Int64) (m_marks : Nat → Int32) (x : Int32) (hf : f_X10_count v1 m_drawers_full m_drawers_kept m_tape_size = some x) : kx_MI l yX10_count cX10_count 2 (some .int) 0 0 D T [.ref (h 0), .int v1] (wC T h m_drawers_full m_drawers_kept m_drawers_partA m_drawers_partB m_drawers_keptA m_drawers_keptB m_drawers_keptFull m_tape_size m_tape_plain m_tape_omegas m_tape_end m_tape_place m_tape_plainTold m_tape_omegasTold m_tape_bytes m_euclid_count m_euclid_last_a m_euclid_last_b m_euclid_lastOfFirst_a m_euclid_lastOfFirst_b m_euclid_lastOfSecond_a m_euclid_lastOfSecond_b m_euclid_next_a m_euclid_next_b m_euclid_nextOfFirst_a m_euclid_nextOfFirst_b m_euclid_nextOfSecond_a m_euclid_nextOfSecond_b m_euclid_q_a m_euclid_q_b m_euclid_quotientA m_euclid_quotientB m_modulus_step m_modulus_width m_modulus_slant m_modulus_square_a m_modulus_square_b m_factors_count m_factors_threes m_factors_unit m_factors_primeA m_factors_primeB m_factors_norms m_factors_euclid_count m_factors_euclid_last_a m_factors_euclid_last_b m_factors_euclid_lastOfFirst_a m_factors_euclid_lastOfFirst_b m_factors_euclid_lastOfSecond_a m_factors_euclid_lastOfSecond_b m_factors_euclid_next_a m_factors_euclid_next_b m_factors_euclid_nextOfFirst_a m_factors_euclid_nextOfFirst_b m_factors_euclid_nextOfSecond_a m_factors_euclid_nextOfSecond_b m_factors_euclid_q_a m_factors_euclid_q_b m_factors_euclid_quotientA m_factors_euclid_quotientB m_factors_left_a m_factors_left_b m_factors_found_a m_factors_found_b m_factors_product_a m_factors_product_b m_primes_count m_primes_primeA m_primes_primeB m_primes_found_a m_primes_found_b m_rings_foundA m_rings_foundB m_rings_all m_rings_mostOfOneRow m_letters_count m_letters_bytes m_one_a m_one_b m_two_a m_two_b m_three_a m_three_b m_four_a m_four_b m_out_a m_out_b m_spare_a m_spare_b m_marks) (wC T h m_drawers_full m_drawers_kept m_drawers_partA m_drawers_partB m_drawers_keptA m_drawers_keptB m_drawers_keptFull m_tape_size m_tape_plain m_tape_omegas m_tape_end m_tape_place m_tape_plainTold m_tape_omegasTold m_tape_bytes m_euclid_count m_euclid_last_a m_euclid_last_b m_euclid_lastOfFirst_a m_euclid_lastOfFirst_b m_euclid_lastOfSecond_a m_euclid_lastOfSecond_b m_euclid_next_a m_euclid_next_b m_euclid_nextOfFirst_a m_euclid_nextOfFirst_b m_euclid_nextOfSecond_a m_euclid_nextOfSecond_b m_euclid_q_a m_euclid_q_b m_euclid_quotientA m_euclid_quotientB m_modulus_step m_modulus_width m_modulus_slant m_modulus_square_a m_modulus_square_b m_factors_count m_factors_threes m_factors_unit m_factors_primeA m_factors_primeB m_factors_norms m_factors_euclid_count m_factors_euclid_last_a m_factors_euclid_last_b m_factors_euclid_lastOfFirst_a m_factors_euclid_lastOfFirst_b m_factors_euclid_lastOfSecond_a m_factors_euclid_lastOfSecond_b m_factors_euclid_next_a m_factors_euclid_next_b m_factors_euclid_nextOfFirst_a m_factors_euclid_nextOfFirst_b m_factors_euclid_nextOfSecond_a m_factors_euclid_nextOfSecond_b m_factors_euclid_q_a m_factors_euclid_q_b m_factors_euclid_quotientA m_factors_euclid_quotientB m_factors_left_a m_factors_left_b m_factors_found_a m_factors_found_b m_factors_product_a m_factors_product_b m_primes_count m_primes_primeA m_primes_primeB m_primes_found_a m_primes_found_b m_rings_foundA m_rings_foundB m_rings_all m_rings_mostOfOneRow m_letters_count m_letters_bytes m_one_a m_one_b m_two_a m_two_b m_three_a m_three_b m_four_a m_four_b m_out_a m_out_b m_spare_a m_spare_b m_marks) x := by
  refine kx_ofMI RX10 rfl (plainFor_of_name (x := yX10_count) kpn_X10) rfl ?_
  intro E A H ls _ C X R hl
  have hl : lv_has ls 2 [(0, .ref (h 0)), (1, .int v1)] := hl
  rw [f_X10_count] at hf
  refine x_iload_n 1 C dX10_count_0 hl 1 rfl rfl ?_
  refine kx_sw hf (fun hs0 hf => ?_) (fun hs0 hf => ?_)
  · refine x_table (off := 27) 28 C dX10_count_1 (0 : Int32) hs0 (by decide) (by decide) (by decide) rfl ?_
    refine x_aload_n 29 C dX10_count_28 hl 0 rfl rfl ?_
    refine x_get 32 C dX10_count_29 X kf_X10_12 0 rfl rfl rfl ?_
    refine x_get 35 C dX10_count_32 X kf_X10_454 1 rfl rfl rfl ?_
    obtain rfl := Option.some.inj hf
    exact R _ _ _ _ X dX10_count_35
  refine kx_sw hf (fun hs1 hf => ?_) (fun hs1 hf => ?_)
  · refine x_table (off := 35) 36 C dX10_count_1 (1 : Int32) hs1 (by decide) (by decide) (by decide) rfl ?_
    refine x_aload_n 37 C dX10_count_36 hl 0 rfl rfl ?_
    refine x_get 40 C dX10_count_37 X kf_X10_21 0 rfl rfl rfl ?_
    refine x_get 43 C dX10_count_40 X kf_X10_101 7 rfl rfl rfl ?_
    obtain rfl := Option.some.inj hf
    exact R _ _ _ _ X dX10_count_43
  refine kx_sw hf (fun hs2 hf => ?_) (fun hs2 hf => ?_)
  · refine x_table (off := 43) 44 C dX10_count_1 (2 : Int32) hs2 (by decide) (by decide) (by decide) rfl ?_
    refine x_aload_n 45 C dX10_count_44 hl 0 rfl rfl ?_
    refine x_get 48 C dX10_count_45 X kf_X10_12 0 rfl rfl rfl ?_
    refine x_get 51 C dX10_count_48 X kf_X10_457 1 rfl rfl rfl ?_
    obtain rfl := Option.some.inj hf
    exact R _ _ _ _ X dX10_count_51
  refine x_tableOut 52 C dX10_count_1 (by have hn0 := lv_neT (a := 0) hs0 (by decide); have hn1 := lv_neT (a := 1) hs1 (by decide); have hn2 := lv_neT (a := 2) hs2 (by decide); omega) rfl ?_
  refine x_iconst 53 C dX10_count_52 (-1 : Int32) kv_iconst_m1 rfl ?_
  obtain rfl := Option.some.inj hf
  exact R _ _ _ _ X dX10_count_53
set_option maxHeartbeats 4000000 in
set_option maxRecDepth 100000 in
theorem w_X11_count_4 {E : KE} {A : Nat → Prop} {D : va_G} {T : KT} (h : Nat → Nat) (C : kx_C E cX11_count 4 (some .int) RX11 0 0 D T) (N : Nat) (x : Int32) (m_taped m_states : Int32) (m_ra m_rb : Int64) (m_threes m_primes m_ones m_unit : Int32) (m_allParts m_allNorms m_allClasses : Int64) (m_odd : Int32) (m_boxWide m_boxHigh m_boxStep : Int64) (m_partingMany : Int32) (m_qa m_qb m_la m_lb m_sa m_sb m_ta m_tb : Int64) (m_listed m_tells m_wanted m_found : Int32) (m_bits : Int64) (m_power2 m_rings m_ringA m_ringB m_seedNow : Int32) (m_tape m_has m_keptHas m_first m_second m_keptFirst m_keptSecond m_pa m_pb m_pNorm m_cubed m_isOpen m_signs m_often m_la0 m_lb0 : Nat → Int32) (R : kx_RI E cX11_count D A (wM T h m_taped m_states m_ra m_rb m_threes m_primes m_ones m_unit m_allParts m_allNorms m_allClasses m_odd m_boxWide m_boxHigh m_boxStep m_partingMany m_qa m_qb m_la m_lb m_sa m_sb m_ta m_tb m_listed m_tells m_wanted m_found m_bits m_power2 m_rings m_ringA m_ringB m_seedNow m_tape m_has m_keptHas m_first m_second m_keptFirst m_keptSecond m_pa m_pb m_pNorm m_cubed m_isOpen m_signs m_often m_la0 m_lb0) x) : ∀ (k : Nat), ∀  (v1 v2 v3 : Int32) (H : Heap) (locs : List Loc) (ls : Array Slot), kx_H E D A H locs (wM T h m_taped m_states m_ra m_rb m_threes m_primes m_ones m_unit m_allParts m_allNorms m_allClasses m_odd m_boxWide m_boxHigh m_boxStep m_partingMany m_qa m_qb m_la m_lb m_sa m_sb m_ta m_tb m_listed m_tells m_wanted m_found m_bits m_power2 m_rings m_ringA m_ringB m_seedNow m_tape m_has m_keptHas m_first m_second m_keptFirst m_keptSecond m_pa m_pb m_pNorm m_cubed m_isOpen m_signs m_often m_la0 m_lb0) → lv_has ls 4 [(0, .ref (h 0)), (1, .int v1), (2, .int v2), (3, .int v3)] → f_X11_count_4 N k v1 v2 v3 m_taped m_states m_has = some x → kx_W E H locs 4 ls [] := by
  intro k
  induction k with
  | zero =>
    intro v1 v2 v3 H locs ls X hl hf
    cases (show (none : Option (Int32)) = some x from hf)
  | succ k ih =>
    intro v1 v2 v3 H locs ls X hl hf
    rw [f_X11_count_4] at hf
    refine x_iload_n 5 C dX11_count_4 hl 3 rfl rfl ?_
    refine x_bipush 7 C dX11_count_5 (8 : Int32) kv_bipush_8 rfl ?_
    refine x_icmp_ge 35 10 C dX11_count_7 rfl rfl hf (fun hf => ?_) (fun hf => ?_)
    · refine x_iload_n 36 C dX11_count_35 hl 1 rfl rfl ?_
      refine x_if_ne 43 39 C dX11_count_36 rfl rfl hf (fun hf => ?_) (fun hf => ?_)
      · refine x_iload_n 44 C dX11_count_43 hl 1 rfl rfl ?_
        refine x_iconst 45 C dX11_count_44 (1 : Int32) kv_iconst_1 rfl ?_
        refine x_icmp_ne 55 48 C dX11_count_45 rfl rfl hf (fun hf => ?_) (fun hf => ?_)
        · refine x_iload_n 56 C dX11_count_55 hl 1 rfl rfl ?_
          refine x_iconst 57 C dX11_count_56 (2 : Int32) kv_iconst_2 rfl ?_
          refine x_icmp_ne 67 60 C dX11_count_57 rfl rfl hf (fun hf => ?_) (fun hf => ?_)
          · refine x_iconst 68 C dX11_count_67 (-1 : Int32) kv_iconst_m1 rfl ?_
            obtain rfl := Option.some.inj hf
            exact R _ _ _ _ X dX11_count_68
          refine x_aload_n 61 C dX11_count_60 hl 0 rfl rfl ?_
          refine x_get 64 C dX11_count_61 X kf_X11_102 0 rfl rfl rfl ?_
          refine x_goto 68 C dX11_count_64 rfl ?_
          obtain rfl := Option.some.inj hf
          exact R _ _ _ _ X dX11_count_68
        refine x_aload_n 49 C dX11_count_48 hl 0 rfl rfl ?_
        refine x_get 52 C dX11_count_49 X kf_X11_67 0 rfl rfl rfl ?_
        refine x_goto 68 C dX11_count_52 rfl ?_
        obtain rfl := Option.some.inj hf
        exact R _ _ _ _ X dX11_count_68
      refine x_iload_n 40 C dX11_count_39 hl 2 rfl rfl ?_
      refine x_goto 68 C dX11_count_40 rfl ?_
      obtain rfl := Option.some.inj hf
      exact R _ _ _ _ X dX11_count_68
    refine x_iload_n 11 C dX11_count_10 hl 2 rfl rfl ?_
    refine x_aload_n 12 C dX11_count_11 hl 0 rfl rfl ?_
    refine x_get 15 C dX11_count_12 X kf_X11_13 0 rfl rfl rfl ?_
    refine x_iload_n 16 C dX11_count_15 hl 3 rfl rfl ?_
    refine x_zald 17 C dX11_count_16 X 2 rfl hf rfl (fun hf => ?_)
    refine x_if_eq 26 20 C dX11_count_17 rfl rfl hf (fun hf => ?_) (fun hf => ?_)
    · refine x_iconst 27 C dX11_count_26 (0 : Int32) kv_iconst_0 rfl ?_
      refine x_ior 28 C dX11_count_27 rfl ?_
      refine x_istore_n 29 C dX11_count_28 [(2, .int (v2 ||| (0 : Int32))), (0, .ref (h 0)), (1, .int v1), (3, .int v3)] hl rfl rfl rfl (fun ls hl => ?_)
      refine x_iinc 32 C dX11_count_29 (1 : Int32) kv_iconst_1 [(3, .int (v3 + (1 : Int32))), (2, .int (v2 ||| (0 : Int32))), (0, .ref (h 0)), (1, .int v1)] hl 3 rfl rfl rfl rfl (fun ls hl => ?_)
      refine x_goto 4 C dX11_count_32 rfl ?_
      exact ih v1 (v2 ||| (0 : Int32)) (v3 + (1 : Int32)) _ _ _ X (lv_sub hl [2, 3, 1, 0] rfl) hf
    refine x_iconst 21 C dX11_count_20 (1 : Int32) kv_iconst_1 rfl ?_
    refine x_iload_n 22 C dX11_count_21 hl 3 rfl rfl ?_
    refine x_ishl 23 C dX11_count_22 rfl ?_
    refine x_goto 27 C dX11_count_23 rfl ?_
    refine x_ior 28 C dX11_count_27 rfl ?_
    refine x_istore_n 29 C dX11_count_28 [(2, .int (v2 ||| ((1 : Int32) <<< (v3 &&& 31)))), (0, .ref (h 0)), (1, .int v1), (3, .int v3)] hl rfl rfl rfl (fun ls hl => ?_)
    refine x_iinc 32 C dX11_count_29 (1 : Int32) kv_iconst_1 [(3, .int (v3 + (1 : Int32))), (2, .int (v2 ||| ((1 : Int32) <<< (v3 &&& 31)))), (0, .ref (h 0)), (1, .int v1)] hl 3 rfl rfl rfl rfl (fun ls hl => ?_)
    refine x_goto 4 C dX11_count_32 rfl ?_
    exact ih v1 (v2 ||| ((1 : Int32) <<< (v3 &&& 31))) (v3 + (1 : Int32)) _ _ _ X (lv_sub hl [2, 3, 1, 0] rfl) hf
set_option maxHeartbeats 4000000 in
set_option maxRecDepth 100000 in
theorem c_X11_count (l : Launch) (D : va_G) (T : KT) (h : Nat → Nat) (N : Nat) (v1 : Int32) (m_taped m_states : Int32) (m_ra m_rb : Int64) (m_threes m_primes m_ones m_unit : Int32) (m_allParts m_allNorms m_allClasses : Int64) (m_odd : Int32) (m_boxWide m_boxHigh m_boxStep : Int64) (m_partingMany : Int32) (m_qa m_qb m_la m_lb m_sa m_sb m_ta m_tb : Int64) (m_listed m_tells m_wanted m_found : Int32) (m_bits : Int64) (m_power2 m_rings m_ringA m_ringB m_seedNow : Int32) (m_tape m_has m_keptHas m_first m_second m_keptFirst m_keptSecond m_pa m_pb m_pNorm m_cubed m_isOpen m_signs m_often m_la0 m_lb0 : Nat → Int32) (x : Int32) (hf : f_X11_count N v1 m_taped m_states m_has = some x) : kx_MI l yX11_count cX11_count 4 (some .int) 0 0 D T [.ref (h 0), .int v1] (wM T h m_taped m_states m_ra m_rb m_threes m_primes m_ones m_unit m_allParts m_allNorms m_allClasses m_odd m_boxWide m_boxHigh m_boxStep m_partingMany m_qa m_qb m_la m_lb m_sa m_sb m_ta m_tb m_listed m_tells m_wanted m_found m_bits m_power2 m_rings m_ringA m_ringB m_seedNow m_tape m_has m_keptHas m_first m_second m_keptFirst m_keptSecond m_pa m_pb m_pNorm m_cubed m_isOpen m_signs m_often m_la0 m_lb0) (wM T h m_taped m_states m_ra m_rb m_threes m_primes m_ones m_unit m_allParts m_allNorms m_allClasses m_odd m_boxWide m_boxHigh m_boxStep m_partingMany m_qa m_qb m_la m_lb m_sa m_sb m_ta m_tb m_listed m_tells m_wanted m_found m_bits m_power2 m_rings m_ringA m_ringB m_seedNow m_tape m_has m_keptHas m_first m_second m_keptFirst m_keptSecond m_pa m_pb m_pNorm m_cubed m_isOpen m_signs m_often m_la0 m_lb0) x := by
  refine kx_ofMI RX11 rfl (plainFor_of_name (x := yX11_count) kpn_X11) rfl ?_
  intro E A H ls _ C X R hl
  have hl : lv_has ls 4 [(0, .ref (h 0)), (1, .int v1)] := hl
  rw [f_X11_count] at hf
  refine x_iconst 1 C dX11_count_0 (0 : Int32) kv_iconst_0 rfl ?_
  refine x_istore_n 2 C dX11_count_1 [(2, .int (0 : Int32)), (0, .ref (h 0)), (1, .int v1)] hl rfl rfl rfl (fun ls hl => ?_)
  refine x_iconst 3 C dX11_count_2 (0 : Int32) kv_iconst_0 rfl ?_
  refine x_istore_n 4 C dX11_count_3 [(3, .int (0 : Int32)), (2, .int (0 : Int32)), (0, .ref (h 0)), (1, .int v1)] hl rfl rfl rfl (fun ls hl => ?_)
  exact w_X11_count_4 h C N x m_taped m_states m_ra m_rb m_threes m_primes m_ones m_unit m_allParts m_allNorms m_allClasses m_odd m_boxWide m_boxHigh m_boxStep m_partingMany m_qa m_qb m_la m_lb m_sa m_sb m_ta m_tb m_listed m_tells m_wanted m_found m_bits m_power2 m_rings m_ringA m_ringB m_seedNow m_tape m_has m_keptHas m_first m_second m_keptFirst m_keptSecond m_pa m_pb m_pNorm m_cubed m_isOpen m_signs m_often m_la0 m_lb0 R  N v1 (0 : Int32) (0 : Int32) _ _ _ X (lv_sub hl [2, 3, 1, 0] rfl) hf
set_option maxHeartbeats 4000000 in
set_option maxRecDepth 100000 in
theorem w_X0_pushState_20 {E : KE} {A : Nat → Prop} {D : va_G} {T : KT} (h0 h1 h2 h3 h4 h5 : Nat) (C : kx_C E cX0_pushState 2 (some .boolean) RX0 0 0 D T) (N : Nat) (x : Int32 × Int32 × (Nat → Int32) × (Nat → Int32) × (Nat → Int32)) (m_full : Int32) (m_partA m_partB : Nat → Int32) (R : kx_RZ E cX0_pushState D A (w5_X0 T h0 h1 h2 h3 h4 h5 m_full x.2.1 m_partA m_partB x.2.2.1 x.2.2.2.1 x.2.2.2.2) x.1) : ∀ (k : Nat), ∀ (m_kept : Int32) (m_keptA m_keptB m_keptFull : Nat → Int32) (v1 : Int32) (H : Heap) (locs : List Loc) (ls : Array Slot), kx_H E D A H locs (w5_X0 T h0 h1 h2 h3 h4 h5 m_full m_kept m_partA m_partB m_keptA m_keptB m_keptFull) → lv_has ls 2 [(0, .ref h0), (1, .int v1)] → f_X0_pushState_20 N k v1 m_full m_kept m_partA m_partB m_keptA m_keptB m_keptFull = some x → kx_W E H locs 20 ls [] := by
  intro k
  induction k with
  | zero =>
    intro m_kept m_keptA m_keptB m_keptFull v1 H locs ls X hl hf
    cases (show (none : Option (Int32 × Int32 × (Nat → Int32) × (Nat → Int32) × (Nat → Int32))) = some x from hf)
  | succ k ih =>
    intro m_kept m_keptA m_keptB m_keptFull v1 H locs ls X hl hf
    rw [f_X0_pushState_20] at hf
    refine x_iload_n 21 C dX0_pushState_20 hl 1 rfl rfl ?_
    refine x_bipush 23 C dX0_pushState_21 (8 : Int32) kv_bipush_8 rfl ?_
    refine x_icmp_ge 72 26 C dX0_pushState_23 rfl rfl hf (fun hf => ?_) (fun hf => ?_)
    · refine x_aload_n 73 C dX0_pushState_72 hl 0 rfl rfl ?_
      refine x_get 76 C dX0_pushState_73 X kf_X0_22 0 rfl rfl rfl ?_
      refine x_aload_n 77 C dX0_pushState_76 hl 0 rfl rfl ?_
      refine x_get 80 C dX0_pushState_77 X kf_X0_39 0 rfl rfl rfl ?_
      refine x_aload_n 81 C dX0_pushState_80 hl 0 rfl rfl ?_
      refine x_get 84 C dX0_pushState_81 X kf_X0_29 0 rfl rfl rfl ?_
      refine x_iast 85 C dX0_pushState_84 X 5 rfl (w5_X0 T h0 h1 h2 h3 h4 h5 m_full m_kept m_partA m_partB m_keptA m_keptB (upd m_keptFull (m_kept).toNatClampNeg m_full)) rfl hf rfl (fun H locs X hf => ?_)
      refine x_aload_n 86 C dX0_pushState_85 hl 0 rfl rfl ?_
      refine x_dup 87 C dX0_pushState_86 rfl rfl ?_
      refine x_get 90 C dX0_pushState_87 X kf_X0_39 0 rfl rfl rfl ?_
      refine x_iconst 91 C dX0_pushState_90 (1 : Int32) kv_iconst_1 rfl ?_
      refine x_iadd 92 C dX0_pushState_91 rfl ?_
      refine x_put 95 C dX0_pushState_92 X kp_X0_39 0 rfl rfl rfl rfl (w5_X0 T h0 h1 h2 h3 h4 h5 m_full (m_kept + (1 : Int32)) m_partA m_partB m_keptA m_keptB (upd m_keptFull (m_kept).toNatClampNeg m_full)) rfl rfl (fun H locs X => ?_)
      refine x_iconst 96 C dX0_pushState_95 (1 : Int32) kv_iconst_1 rfl ?_
      obtain rfl := Option.some.inj hf
      exact R _ _ _ _ X kb_1 dX0_pushState_96
    refine x_aload_n 27 C dX0_pushState_26 hl 0 rfl rfl ?_
    refine x_get 30 C dX0_pushState_27 X kf_X0_16 0 rfl rfl rfl ?_
    refine x_aload_n 31 C dX0_pushState_30 hl 0 rfl rfl ?_
    refine x_get 34 C dX0_pushState_31 X kf_X0_39 0 rfl rfl rfl ?_
    refine x_bipush 36 C dX0_pushState_34 (8 : Int32) kv_bipush_8 rfl ?_
    refine x_imul 37 C dX0_pushState_36 rfl ?_
    refine x_iload_n 38 C dX0_pushState_37 hl 1 rfl rfl ?_
    refine x_iadd 39 C dX0_pushState_38 rfl ?_
    refine x_aload_n 40 C dX0_pushState_39 hl 0 rfl rfl ?_
    refine x_get 43 C dX0_pushState_40 X kf_X0_9 0 rfl rfl rfl ?_
    refine x_iload_n 44 C dX0_pushState_43 hl 1 rfl rfl ?_
    refine x_iald 45 C dX0_pushState_44 X 1 rfl hf rfl (fun hf => ?_)
    refine x_iast 46 C dX0_pushState_45 X 3 rfl (w5_X0 T h0 h1 h2 h3 h4 h5 m_full m_kept m_partA m_partB (upd m_keptA (((m_kept * (8 : Int32)) + v1)).toNatClampNeg (m_partA (v1).toNatClampNeg)) m_keptB m_keptFull) rfl hf rfl (fun H locs X hf => ?_)
    refine x_aload_n 47 C dX0_pushState_46 hl 0 rfl rfl ?_
    refine x_get 50 C dX0_pushState_47 X kf_X0_19 0 rfl rfl rfl ?_
    refine x_aload_n 51 C dX0_pushState_50 hl 0 rfl rfl ?_
    refine x_get 54 C dX0_pushState_51 X kf_X0_39 0 rfl rfl rfl ?_
    refine x_bipush 56 C dX0_pushState_54 (8 : Int32) kv_bipush_8 rfl ?_
    refine x_imul 57 C dX0_pushState_56 rfl ?_
    refine x_iload_n 58 C dX0_pushState_57 hl 1 rfl rfl ?_
    refine x_iadd 59 C dX0_pushState_58 rfl ?_
    refine x_aload_n 60 C dX0_pushState_59 hl 0 rfl rfl ?_
    refine x_get 63 C dX0_pushState_60 X kf_X0_13 0 rfl rfl rfl ?_
    refine x_iload_n 64 C dX0_pushState_63 hl 1 rfl rfl ?_
    refine x_iald 65 C dX0_pushState_64 X 2 rfl hf rfl (fun hf => ?_)
    refine x_iast 66 C dX0_pushState_65 X 4 rfl (w5_X0 T h0 h1 h2 h3 h4 h5 m_full m_kept m_partA m_partB (upd m_keptA (((m_kept * (8 : Int32)) + v1)).toNatClampNeg (m_partA (v1).toNatClampNeg)) (upd m_keptB (((m_kept * (8 : Int32)) + v1)).toNatClampNeg (m_partB (v1).toNatClampNeg)) m_keptFull) rfl hf rfl (fun H locs X hf => ?_)
    refine x_iinc 69 C dX0_pushState_66 (1 : Int32) kv_iconst_1 [(1, .int (v1 + (1 : Int32))), (0, .ref h0)] hl 1 rfl rfl rfl rfl (fun ls hl => ?_)
    refine x_goto 20 C dX0_pushState_69 rfl ?_
    exact ih m_kept (upd m_keptA (((m_kept * (8 : Int32)) + v1)).toNatClampNeg (m_partA (v1).toNatClampNeg)) (upd m_keptB (((m_kept * (8 : Int32)) + v1)).toNatClampNeg (m_partB (v1).toNatClampNeg)) m_keptFull (v1 + (1 : Int32)) _ _ _ X (lv_sub hl [1, 0] rfl) hf
set_option maxHeartbeats 4000000 in
set_option maxRecDepth 100000 in
theorem c_X0_pushState (l : Launch) (D : va_G) (T : KT) (h0 h1 h2 h3 h4 h5 : Nat) (N : Nat)  (m_full m_kept : Int32) (m_partA m_partB m_keptA m_keptB m_keptFull : Nat → Int32) (x : Int32 × Int32 × (Nat → Int32) × (Nat → Int32) × (Nat → Int32)) (hf : f_X0_pushState N m_full m_kept m_partA m_partB m_keptA m_keptB m_keptFull = some x) : kx_MI l yX0_pushState cX0_pushState 2 (some .boolean) 0 0 D T [.ref h0] (w5_X0 T h0 h1 h2 h3 h4 h5 m_full m_kept m_partA m_partB m_keptA m_keptB m_keptFull) (w5_X0 T h0 h1 h2 h3 h4 h5 m_full x.2.1 m_partA m_partB x.2.2.1 x.2.2.2.1 x.2.2.2.2) x.1 := by
  refine kx_ofMZ RX0 rfl (plainFor_of_name (x := yX0_pushState) kpn_X0) rfl ?_
  intro E A H ls _ C X R hl
  have hl : lv_has ls 2 [(0, .ref h0)] := hl
  rw [f_X0_pushState] at hf
  refine x_aload_n 1 C dX0_pushState_0 hl 0 rfl rfl ?_
  refine x_get 4 C dX0_pushState_1 X kf_X0_39 0 rfl rfl rfl ?_
  refine x_if_lt 16 7 C dX0_pushState_4 rfl rfl hf (fun hf => ?_) (fun hf => ?_)
  · refine x_iconst 17 C dX0_pushState_16 (0 : Int32) kv_iconst_0 rfl ?_
    obtain rfl := Option.some.inj hf
    exact R _ _ _ _ X kb_0 dX0_pushState_17
  refine x_aload_n 8 C dX0_pushState_7 hl 0 rfl rfl ?_
  refine x_get 11 C dX0_pushState_8 X kf_X0_39 0 rfl rfl rfl ?_
  refine x_bipush 13 C dX0_pushState_11 (12 : Int32) kv_bipush_12 rfl ?_
  refine x_icmp_lt 18 16 C dX0_pushState_13 rfl rfl hf (fun hf => ?_) (fun hf => ?_)
  · refine x_iconst 19 C dX0_pushState_18 (0 : Int32) kv_iconst_0 rfl ?_
    refine x_istore_n 20 C dX0_pushState_19 [(1, .int (0 : Int32)), (0, .ref h0)] hl rfl rfl rfl (fun ls hl => ?_)
    exact w_X0_pushState_20 h0 h1 h2 h3 h4 h5 C N x m_full m_partA m_partB R  N m_kept m_keptA m_keptB m_keptFull (0 : Int32) _ _ _ X (lv_sub hl [1, 0] rfl) hf
  refine x_iconst 17 C dX0_pushState_16 (0 : Int32) kv_iconst_0 rfl ?_
  obtain rfl := Option.some.inj hf
  exact R _ _ _ _ X kb_0 dX0_pushState_17
set_option maxHeartbeats 4000000 in
set_option maxRecDepth 100000 in
theorem c_X10_keep (l : Launch) (D : va_G) (T : KT) (h : Nat → Nat) (N : Nat)  (m_drawers_full m_drawers_kept : Int32) (m_drawers_partA m_drawers_partB m_drawers_keptA m_drawers_keptB m_drawers_keptFull : Nat → Int32) (m_tape_size m_tape_plain m_tape_omegas m_tape_end m_tape_place m_tape_plainTold m_tape_omegasTold : Int32) (m_tape_bytes : Nat → Int32) (m_euclid_count : Int32) (m_euclid_last_a m_euclid_last_b m_euclid_lastOfFirst_a m_euclid_lastOfFirst_b m_euclid_lastOfSecond_a m_euclid_lastOfSecond_b m_euclid_next_a m_euclid_next_b m_euclid_nextOfFirst_a m_euclid_nextOfFirst_b m_euclid_nextOfSecond_a m_euclid_nextOfSecond_b m_euclid_q_a m_euclid_q_b : Int64) (m_euclid_quotientA m_euclid_quotientB : Nat → Int64) (m_modulus_step m_modulus_width m_modulus_slant m_modulus_square_a m_modulus_square_b : Int64) (m_factors_count m_factors_threes m_factors_unit : Int32) (m_factors_primeA m_factors_primeB m_factors_norms : Nat → Int64) (m_factors_euclid_count : Int32) (m_factors_euclid_last_a m_factors_euclid_last_b m_factors_euclid_lastOfFirst_a m_factors_euclid_lastOfFirst_b m_factors_euclid_lastOfSecond_a m_factors_euclid_lastOfSecond_b m_factors_euclid_next_a m_factors_euclid_next_b m_factors_euclid_nextOfFirst_a m_factors_euclid_nextOfFirst_b m_factors_euclid_nextOfSecond_a m_factors_euclid_nextOfSecond_b m_factors_euclid_q_a m_factors_euclid_q_b : Int64) (m_factors_euclid_quotientA m_factors_euclid_quotientB : Nat → Int64) (m_factors_left_a m_factors_left_b m_factors_found_a m_factors_found_b m_factors_product_a m_factors_product_b : Int64) (m_primes_count : Int32) (m_primes_primeA m_primes_primeB : Nat → Int32) (m_primes_found_a m_primes_found_b : Int64) (m_rings_foundA m_rings_foundB m_rings_all m_rings_mostOfOneRow m_letters_count : Int32) (m_letters_bytes : Nat → Int32) (m_one_a m_one_b m_two_a m_two_b m_three_a m_three_b m_four_a m_four_b m_out_a m_out_b m_spare_a m_spare_b : Int64) (m_marks : Nat → Int32) (x : Int32 × Int32 × (Nat → Int32) × (Nat → Int32) × (Nat → Int32)) (hf : f_X10_keep N m_drawers_full m_drawers_kept m_drawers_partA m_drawers_partB m_drawers_keptA m_drawers_keptB m_drawers_keptFull = some x) : kx_MI l yX10_keep cX10_keep 1 (some .int) 1 21 D T [.ref (h 0)] (wC T h m_drawers_full m_drawers_kept m_drawers_partA m_drawers_partB m_drawers_keptA m_drawers_keptB m_drawers_keptFull m_tape_size m_tape_plain m_tape_omegas m_tape_end m_tape_place m_tape_plainTold m_tape_omegasTold m_tape_bytes m_euclid_count m_euclid_last_a m_euclid_last_b m_euclid_lastOfFirst_a m_euclid_lastOfFirst_b m_euclid_lastOfSecond_a m_euclid_lastOfSecond_b m_euclid_next_a m_euclid_next_b m_euclid_nextOfFirst_a m_euclid_nextOfFirst_b m_euclid_nextOfSecond_a m_euclid_nextOfSecond_b m_euclid_q_a m_euclid_q_b m_euclid_quotientA m_euclid_quotientB m_modulus_step m_modulus_width m_modulus_slant m_modulus_square_a m_modulus_square_b m_factors_count m_factors_threes m_factors_unit m_factors_primeA m_factors_primeB m_factors_norms m_factors_euclid_count m_factors_euclid_last_a m_factors_euclid_last_b m_factors_euclid_lastOfFirst_a m_factors_euclid_lastOfFirst_b m_factors_euclid_lastOfSecond_a m_factors_euclid_lastOfSecond_b m_factors_euclid_next_a m_factors_euclid_next_b m_factors_euclid_nextOfFirst_a m_factors_euclid_nextOfFirst_b m_factors_euclid_nextOfSecond_a m_factors_euclid_nextOfSecond_b m_factors_euclid_q_a m_factors_euclid_q_b m_factors_euclid_quotientA m_factors_euclid_quotientB m_factors_left_a m_factors_left_b m_factors_found_a m_factors_found_b m_factors_product_a m_factors_product_b m_primes_count m_primes_primeA m_primes_primeB m_primes_found_a m_primes_found_b m_rings_foundA m_rings_foundB m_rings_all m_rings_mostOfOneRow m_letters_count m_letters_bytes m_one_a m_one_b m_two_a m_two_b m_three_a m_three_b m_four_a m_four_b m_out_a m_out_b m_spare_a m_spare_b m_marks) (wC T h m_drawers_full x.2.1 m_drawers_partA m_drawers_partB x.2.2.1 x.2.2.2.1 x.2.2.2.2 m_tape_size m_tape_plain m_tape_omegas m_tape_end m_tape_place m_tape_plainTold m_tape_omegasTold m_tape_bytes m_euclid_count m_euclid_last_a m_euclid_last_b m_euclid_lastOfFirst_a m_euclid_lastOfFirst_b m_euclid_lastOfSecond_a m_euclid_lastOfSecond_b m_euclid_next_a m_euclid_next_b m_euclid_nextOfFirst_a m_euclid_nextOfFirst_b m_euclid_nextOfSecond_a m_euclid_nextOfSecond_b m_euclid_q_a m_euclid_q_b m_euclid_quotientA m_euclid_quotientB m_modulus_step m_modulus_width m_modulus_slant m_modulus_square_a m_modulus_square_b m_factors_count m_factors_threes m_factors_unit m_factors_primeA m_factors_primeB m_factors_norms m_factors_euclid_count m_factors_euclid_last_a m_factors_euclid_last_b m_factors_euclid_lastOfFirst_a m_factors_euclid_lastOfFirst_b m_factors_euclid_lastOfSecond_a m_factors_euclid_lastOfSecond_b m_factors_euclid_next_a m_factors_euclid_next_b m_factors_euclid_nextOfFirst_a m_factors_euclid_nextOfFirst_b m_factors_euclid_nextOfSecond_a m_factors_euclid_nextOfSecond_b m_factors_euclid_q_a m_factors_euclid_q_b m_factors_euclid_quotientA m_factors_euclid_quotientB m_factors_left_a m_factors_left_b m_factors_found_a m_factors_found_b m_factors_product_a m_factors_product_b m_primes_count m_primes_primeA m_primes_primeB m_primes_found_a m_primes_found_b m_rings_foundA m_rings_foundB m_rings_all m_rings_mostOfOneRow m_letters_count m_letters_bytes m_one_a m_one_b m_two_a m_two_b m_three_a m_three_b m_four_a m_four_b m_out_a m_out_b m_spare_a m_spare_b m_marks) x.1 := by
  refine kx_ofMI RX10 rfl (plainFor_of_name (x := yX10_keep) kpn_X10) rfl ?_
  intro E A H ls _ C X R hl
  have hl : lv_has ls 1 [(0, .ref (h 0))] := hl
  rw [f_X10_keep] at hf
  refine x_aload_n 1 C dX10_keep_0 hl 0 rfl rfl ?_
  refine x_get 4 C dX10_keep_1 X kf_X10_12 0 rfl rfl rfl ?_
  obtain ⟨y4, hy4, hf⟩ := kx_bind hf
  refine x_callVi 7 C dX10_keep_4 X hl kl_X10_460 (c_X0_pushState E.2.1 D T (h 1) (h 2) (h 3) (h 4) (h 5) (h 6) N  m_drawers_full m_drawers_kept m_drawers_partA m_drawers_partB m_drawers_keptA m_drawers_keptB m_drawers_keptFull y4 hy4) rfl rfl [] rfl rfl rfl rfl rfl cb_140 rfl (fun H locs X => ?_)
  refine x_if_eq 20 10 C dX10_keep_7 rfl rfl hf (fun hf => ?_) (fun hf => ?_)
  · refine x_iconst 21 C dX10_keep_20 (-1 : Int32) kv_iconst_m1 rfl ?_
    obtain rfl := Option.some.inj hf
    exact R _ _ _ _ X dX10_keep_21
  refine x_aload_n 11 C dX10_keep_10 hl 0 rfl rfl ?_
  refine x_get 14 C dX10_keep_11 X kf_X10_12 0 rfl rfl rfl ?_
  refine x_get 17 C dX10_keep_14 X kf_X10_457 1 rfl rfl rfl ?_
  refine x_goto 21 C dX10_keep_17 rfl ?_
  obtain rfl := Option.some.inj hf
  exact R _ _ _ _ X dX10_keep_21
set_option maxHeartbeats 4000000 in
set_option maxRecDepth 100000 in
theorem w_X11_keep_13 {E : KE} {A : Nat → Prop} {D : va_G} {T : KT} (h : Nat → Nat) (C : kx_C E cX11_keep 2 (some .int) RX11 0 0 D T) (N : Nat) (x : Int32 × Int32 × (Nat → Int32) × (Nat → Int32) × (Nat → Int32)) (m_taped : Int32) (m_ra m_rb : Int64) (m_threes m_primes m_ones m_unit : Int32) (m_allParts m_allNorms m_allClasses : Int64) (m_odd : Int32) (m_boxWide m_boxHigh m_boxStep : Int64) (m_partingMany : Int32) (m_qa m_qb m_la m_lb m_sa m_sb m_ta m_tb : Int64) (m_listed m_tells m_wanted m_found : Int32) (m_bits : Int64) (m_power2 m_rings m_ringA m_ringB m_seedNow : Int32) (m_tape m_has m_first m_second m_pa m_pb m_pNorm m_cubed m_isOpen m_signs m_often m_la0 m_lb0 : Nat → Int32) (R : kx_RI E cX11_keep D A (wM T h m_taped x.2.1 m_ra m_rb m_threes m_primes m_ones m_unit m_allParts m_allNorms m_allClasses m_odd m_boxWide m_boxHigh m_boxStep m_partingMany m_qa m_qb m_la m_lb m_sa m_sb m_ta m_tb m_listed m_tells m_wanted m_found m_bits m_power2 m_rings m_ringA m_ringB m_seedNow m_tape m_has x.2.2.1 m_first m_second x.2.2.2.1 x.2.2.2.2 m_pa m_pb m_pNorm m_cubed m_isOpen m_signs m_often m_la0 m_lb0) x.1) : ∀ (k : Nat), ∀ (m_states : Int32) (m_keptHas m_keptFirst m_keptSecond : Nat → Int32) (v1 : Int32) (H : Heap) (locs : List Loc) (ls : Array Slot), kx_H E D A H locs (wM T h m_taped m_states m_ra m_rb m_threes m_primes m_ones m_unit m_allParts m_allNorms m_allClasses m_odd m_boxWide m_boxHigh m_boxStep m_partingMany m_qa m_qb m_la m_lb m_sa m_sb m_ta m_tb m_listed m_tells m_wanted m_found m_bits m_power2 m_rings m_ringA m_ringB m_seedNow m_tape m_has m_keptHas m_first m_second m_keptFirst m_keptSecond m_pa m_pb m_pNorm m_cubed m_isOpen m_signs m_often m_la0 m_lb0) → lv_has ls 2 [(0, .ref (h 0)), (1, .int v1)] → f_X11_keep_13 N k v1 m_states m_has m_keptHas m_first m_second m_keptFirst m_keptSecond = some x → kx_W E H locs 13 ls [] := by
  intro k
  induction k with
  | zero =>
    intro m_states m_keptHas m_keptFirst m_keptSecond v1 H locs ls X hl hf
    cases (show (none : Option (Int32 × Int32 × (Nat → Int32) × (Nat → Int32) × (Nat → Int32))) = some x from hf)
  | succ k ih =>
    intro m_states m_keptHas m_keptFirst m_keptSecond v1 H locs ls X hl hf
    rw [f_X11_keep_13] at hf
    refine x_iload_n 14 C dX11_keep_13 hl 1 rfl rfl ?_
    refine x_bipush 16 C dX11_keep_14 (8 : Int32) kv_bipush_8 rfl ?_
    refine x_icmp_ge 85 19 C dX11_keep_16 rfl rfl hf (fun hf => ?_) (fun hf => ?_)
    · refine x_aload_n 86 C dX11_keep_85 hl 0 rfl rfl ?_
      refine x_aload_n 87 C dX11_keep_86 hl 0 rfl rfl ?_
      refine x_get 90 C dX11_keep_87 X kf_X11_102 0 rfl rfl rfl ?_
      refine x_iconst 91 C dX11_keep_90 (1 : Int32) kv_iconst_1 rfl ?_
      refine x_iadd 92 C dX11_keep_91 rfl ?_
      refine x_put 95 C dX11_keep_92 X kp_X11_102 0 rfl rfl rfl rfl (wM T h m_taped (m_states + (1 : Int32)) m_ra m_rb m_threes m_primes m_ones m_unit m_allParts m_allNorms m_allClasses m_odd m_boxWide m_boxHigh m_boxStep m_partingMany m_qa m_qb m_la m_lb m_sa m_sb m_ta m_tb m_listed m_tells m_wanted m_found m_bits m_power2 m_rings m_ringA m_ringB m_seedNow m_tape m_has m_keptHas m_first m_second m_keptFirst m_keptSecond m_pa m_pb m_pNorm m_cubed m_isOpen m_signs m_often m_la0 m_lb0) rfl rfl (fun H locs X => ?_)
      refine x_aload_n 96 C dX11_keep_95 hl 0 rfl rfl ?_
      refine x_get 99 C dX11_keep_96 X kf_X11_102 0 rfl rfl rfl ?_
      obtain rfl := Option.some.inj hf
      exact R _ _ _ _ X dX11_keep_99
    refine x_aload_n 20 C dX11_keep_19 hl 0 rfl rfl ?_
    refine x_get 23 C dX11_keep_20 X kf_X11_17 0 rfl rfl rfl ?_
    refine x_bipush 25 C dX11_keep_23 (8 : Int32) kv_bipush_8 rfl ?_
    refine x_aload_n 26 C dX11_keep_25 hl 0 rfl rfl ?_
    refine x_get 29 C dX11_keep_26 X kf_X11_102 0 rfl rfl rfl ?_
    refine x_imul 30 C dX11_keep_29 rfl ?_
    refine x_iload_n 31 C dX11_keep_30 hl 1 rfl rfl ?_
    refine x_iadd 32 C dX11_keep_31 rfl ?_
    refine x_aload_n 33 C dX11_keep_32 hl 0 rfl rfl ?_
    refine x_get 36 C dX11_keep_33 X kf_X11_13 0 rfl rfl rfl ?_
    refine x_iload_n 37 C dX11_keep_36 hl 1 rfl rfl ?_
    refine x_zald 38 C dX11_keep_37 X 2 rfl hf rfl (fun hf => ?_)
    refine x_zast 39 C dX11_keep_38 X 3 rfl (wM T h m_taped m_states m_ra m_rb m_threes m_primes m_ones m_unit m_allParts m_allNorms m_allClasses m_odd m_boxWide m_boxHigh m_boxStep m_partingMany m_qa m_qb m_la m_lb m_sa m_sb m_ta m_tb m_listed m_tells m_wanted m_found m_bits m_power2 m_rings m_ringA m_ringB m_seedNow m_tape m_has (upd m_keptHas ((((8 : Int32) * m_states) + v1)).toNatClampNeg ((m_has (v1).toNatClampNeg) &&& 1)) m_first m_second m_keptFirst m_keptSecond m_pa m_pb m_pNorm m_cubed m_isOpen m_signs m_often m_la0 m_lb0) rfl hf rfl (fun H locs X hf => ?_)
    refine x_aload_n 40 C dX11_keep_39 hl 0 rfl rfl ?_
    refine x_get 43 C dX11_keep_40 X kf_X11_27 0 rfl rfl rfl ?_
    refine x_bipush 45 C dX11_keep_43 (8 : Int32) kv_bipush_8 rfl ?_
    refine x_aload_n 46 C dX11_keep_45 hl 0 rfl rfl ?_
    refine x_get 49 C dX11_keep_46 X kf_X11_102 0 rfl rfl rfl ?_
    refine x_imul 50 C dX11_keep_49 rfl ?_
    refine x_iload_n 51 C dX11_keep_50 hl 1 rfl rfl ?_
    refine x_iadd 52 C dX11_keep_51 rfl ?_
    refine x_aload_n 53 C dX11_keep_52 hl 0 rfl rfl ?_
    refine x_get 56 C dX11_keep_53 X kf_X11_20 0 rfl rfl rfl ?_
    refine x_iload_n 57 C dX11_keep_56 hl 1 rfl rfl ?_
    refine x_iald 58 C dX11_keep_57 X 4 rfl hf rfl (fun hf => ?_)
    refine x_iast 59 C dX11_keep_58 X 6 rfl (wM T h m_taped m_states m_ra m_rb m_threes m_primes m_ones m_unit m_allParts m_allNorms m_allClasses m_odd m_boxWide m_boxHigh m_boxStep m_partingMany m_qa m_qb m_la m_lb m_sa m_sb m_ta m_tb m_listed m_tells m_wanted m_found m_bits m_power2 m_rings m_ringA m_ringB m_seedNow m_tape m_has (upd m_keptHas ((((8 : Int32) * m_states) + v1)).toNatClampNeg ((m_has (v1).toNatClampNeg) &&& 1)) m_first m_second (upd m_keptFirst ((((8 : Int32) * m_states) + v1)).toNatClampNeg (m_first (v1).toNatClampNeg)) m_keptSecond m_pa m_pb m_pNorm m_cubed m_isOpen m_signs m_often m_la0 m_lb0) rfl hf rfl (fun H locs X hf => ?_)
    refine x_aload_n 60 C dX11_keep_59 hl 0 rfl rfl ?_
    refine x_get 63 C dX11_keep_60 X kf_X11_30 0 rfl rfl rfl ?_
    refine x_bipush 65 C dX11_keep_63 (8 : Int32) kv_bipush_8 rfl ?_
    refine x_aload_n 66 C dX11_keep_65 hl 0 rfl rfl ?_
    refine x_get 69 C dX11_keep_66 X kf_X11_102 0 rfl rfl rfl ?_
    refine x_imul 70 C dX11_keep_69 rfl ?_
    refine x_iload_n 71 C dX11_keep_70 hl 1 rfl rfl ?_
    refine x_iadd 72 C dX11_keep_71 rfl ?_
    refine x_aload_n 73 C dX11_keep_72 hl 0 rfl rfl ?_
    refine x_get 76 C dX11_keep_73 X kf_X11_24 0 rfl rfl rfl ?_
    refine x_iload_n 77 C dX11_keep_76 hl 1 rfl rfl ?_
    refine x_iald 78 C dX11_keep_77 X 5 rfl hf rfl (fun hf => ?_)
    refine x_iast 79 C dX11_keep_78 X 7 rfl (wM T h m_taped m_states m_ra m_rb m_threes m_primes m_ones m_unit m_allParts m_allNorms m_allClasses m_odd m_boxWide m_boxHigh m_boxStep m_partingMany m_qa m_qb m_la m_lb m_sa m_sb m_ta m_tb m_listed m_tells m_wanted m_found m_bits m_power2 m_rings m_ringA m_ringB m_seedNow m_tape m_has (upd m_keptHas ((((8 : Int32) * m_states) + v1)).toNatClampNeg ((m_has (v1).toNatClampNeg) &&& 1)) m_first m_second (upd m_keptFirst ((((8 : Int32) * m_states) + v1)).toNatClampNeg (m_first (v1).toNatClampNeg)) (upd m_keptSecond ((((8 : Int32) * m_states) + v1)).toNatClampNeg (m_second (v1).toNatClampNeg)) m_pa m_pb m_pNorm m_cubed m_isOpen m_signs m_often m_la0 m_lb0) rfl hf rfl (fun H locs X hf => ?_)
    refine x_iinc 82 C dX11_keep_79 (1 : Int32) kv_iconst_1 [(1, .int (v1 + (1 : Int32))), (0, .ref (h 0))] hl 1 rfl rfl rfl rfl (fun ls hl => ?_)
    refine x_goto 13 C dX11_keep_82 rfl ?_
    exact ih m_states (upd m_keptHas ((((8 : Int32) * m_states) + v1)).toNatClampNeg ((m_has (v1).toNatClampNeg) &&& 1)) (upd m_keptFirst ((((8 : Int32) * m_states) + v1)).toNatClampNeg (m_first (v1).toNatClampNeg)) (upd m_keptSecond ((((8 : Int32) * m_states) + v1)).toNatClampNeg (m_second (v1).toNatClampNeg)) (v1 + (1 : Int32)) _ _ _ X (lv_sub hl [1, 0] rfl) hf
set_option maxHeartbeats 4000000 in
set_option maxRecDepth 100000 in
theorem c_X11_keep (l : Launch) (D : va_G) (T : KT) (h : Nat → Nat) (N : Nat)  (m_taped m_states : Int32) (m_ra m_rb : Int64) (m_threes m_primes m_ones m_unit : Int32) (m_allParts m_allNorms m_allClasses : Int64) (m_odd : Int32) (m_boxWide m_boxHigh m_boxStep : Int64) (m_partingMany : Int32) (m_qa m_qb m_la m_lb m_sa m_sb m_ta m_tb : Int64) (m_listed m_tells m_wanted m_found : Int32) (m_bits : Int64) (m_power2 m_rings m_ringA m_ringB m_seedNow : Int32) (m_tape m_has m_keptHas m_first m_second m_keptFirst m_keptSecond m_pa m_pb m_pNorm m_cubed m_isOpen m_signs m_often m_la0 m_lb0 : Nat → Int32) (x : Int32 × Int32 × (Nat → Int32) × (Nat → Int32) × (Nat → Int32)) (hf : f_X11_keep N m_states m_has m_keptHas m_first m_second m_keptFirst m_keptSecond = some x) : kx_MI l yX11_keep cX11_keep 2 (some .int) 0 0 D T [.ref (h 0)] (wM T h m_taped m_states m_ra m_rb m_threes m_primes m_ones m_unit m_allParts m_allNorms m_allClasses m_odd m_boxWide m_boxHigh m_boxStep m_partingMany m_qa m_qb m_la m_lb m_sa m_sb m_ta m_tb m_listed m_tells m_wanted m_found m_bits m_power2 m_rings m_ringA m_ringB m_seedNow m_tape m_has m_keptHas m_first m_second m_keptFirst m_keptSecond m_pa m_pb m_pNorm m_cubed m_isOpen m_signs m_often m_la0 m_lb0) (wM T h m_taped x.2.1 m_ra m_rb m_threes m_primes m_ones m_unit m_allParts m_allNorms m_allClasses m_odd m_boxWide m_boxHigh m_boxStep m_partingMany m_qa m_qb m_la m_lb m_sa m_sb m_ta m_tb m_listed m_tells m_wanted m_found m_bits m_power2 m_rings m_ringA m_ringB m_seedNow m_tape m_has x.2.2.1 m_first m_second x.2.2.2.1 x.2.2.2.2 m_pa m_pb m_pNorm m_cubed m_isOpen m_signs m_often m_la0 m_lb0) x.1 := by
  refine kx_ofMI RX11 rfl (plainFor_of_name (x := yX11_keep) kpn_X11) rfl ?_
  intro E A H ls _ C X R hl
  have hl : lv_has ls 2 [(0, .ref (h 0))] := hl
  rw [f_X11_keep] at hf
  refine x_aload_n 1 C dX11_keep_0 hl 0 rfl rfl ?_
  refine x_get 4 C dX11_keep_1 X kf_X11_102 0 rfl rfl rfl ?_
  refine x_bipush 6 C dX11_keep_4 (12 : Int32) kv_bipush_12 rfl ?_
  refine x_icmp_ne 11 9 C dX11_keep_6 rfl rfl hf (fun hf => ?_) (fun hf => ?_)
  · refine x_iconst 12 C dX11_keep_11 (0 : Int32) kv_iconst_0 rfl ?_
    refine x_istore_n 13 C dX11_keep_12 [(1, .int (0 : Int32)), (0, .ref (h 0))] hl rfl rfl rfl (fun ls hl => ?_)
    exact w_X11_keep_13 h C N x m_taped m_ra m_rb m_threes m_primes m_ones m_unit m_allParts m_allNorms m_allClasses m_odd m_boxWide m_boxHigh m_boxStep m_partingMany m_qa m_qb m_la m_lb m_sa m_sb m_ta m_tb m_listed m_tells m_wanted m_found m_bits m_power2 m_rings m_ringA m_ringB m_seedNow m_tape m_has m_first m_second m_pa m_pb m_pNorm m_cubed m_isOpen m_signs m_often m_la0 m_lb0 R  N m_states m_keptHas m_keptFirst m_keptSecond (0 : Int32) _ _ _ X (lv_sub hl [1, 0] rfl) hf
  refine x_iconst 10 C dX11_keep_9 (-1 : Int32) kv_iconst_m1 rfl ?_
  obtain rfl := Option.some.inj hf
  exact R _ _ _ _ X dX11_keep_10
set_option maxHeartbeats 4000000 in
set_option maxRecDepth 100000 in
theorem w_X0_popState_31 {E : KE} {A : Nat → Prop} {D : va_G} {T : KT} (h0 h1 h2 h3 h4 h5 : Nat) (C : kx_C E cX0_popState 2 (some .boolean) RX0 0 0 D T) (N : Nat) (x : Int32 × Int32 × Int32 × (Nat → Int32) × (Nat → Int32)) (m_keptA m_keptB m_keptFull : Nat → Int32) (R : kx_RZ E cX0_popState D A (w5_X0 T h0 h1 h2 h3 h4 h5 x.2.1 x.2.2.1 x.2.2.2.1 x.2.2.2.2 m_keptA m_keptB m_keptFull) x.1) : ∀ (k : Nat), ∀ (m_full m_kept : Int32) (m_partA m_partB : Nat → Int32) (v1 : Int32) (H : Heap) (locs : List Loc) (ls : Array Slot), kx_H E D A H locs (w5_X0 T h0 h1 h2 h3 h4 h5 m_full m_kept m_partA m_partB m_keptA m_keptB m_keptFull) → lv_has ls 2 [(0, .ref h0), (1, .int v1)] → f_X0_popState_31 N k v1 m_kept m_partA m_partB m_keptA m_keptB m_keptFull = some x → kx_W E H locs 31 ls [] := by
  intro k
  induction k with
  | zero =>
    intro m_full m_kept m_partA m_partB v1 H locs ls X hl hf
    cases (show (none : Option (Int32 × Int32 × Int32 × (Nat → Int32) × (Nat → Int32))) = some x from hf)
  | succ k ih =>
    intro m_full m_kept m_partA m_partB v1 H locs ls X hl hf
    rw [f_X0_popState_31] at hf
    refine x_iload_n 32 C dX0_popState_31 hl 1 rfl rfl ?_
    refine x_bipush 34 C dX0_popState_32 (8 : Int32) kv_bipush_8 rfl ?_
    refine x_icmp_ge 83 37 C dX0_popState_34 rfl rfl hf (fun hf => ?_) (fun hf => ?_)
    · refine x_aload_n 84 C dX0_popState_83 hl 0 rfl rfl ?_
      refine x_aload_n 85 C dX0_popState_84 hl 0 rfl rfl ?_
      refine x_get 88 C dX0_popState_85 X kf_X0_22 0 rfl rfl rfl ?_
      refine x_aload_n 89 C dX0_popState_88 hl 0 rfl rfl ?_
      refine x_get 92 C dX0_popState_89 X kf_X0_39 0 rfl rfl rfl ?_
      refine x_iald 93 C dX0_popState_92 X 5 rfl hf rfl (fun hf => ?_)
      refine x_put 96 C dX0_popState_93 X kp_X0_29 0 rfl rfl rfl rfl (w5_X0 T h0 h1 h2 h3 h4 h5 (m_keptFull (m_kept).toNatClampNeg) m_kept m_partA m_partB m_keptA m_keptB m_keptFull) rfl rfl (fun H locs X => ?_)
      refine x_iconst 97 C dX0_popState_96 (1 : Int32) kv_iconst_1 rfl ?_
      obtain rfl := Option.some.inj hf
      exact R _ _ _ _ X kb_1 dX0_popState_97
    refine x_aload_n 38 C dX0_popState_37 hl 0 rfl rfl ?_
    refine x_get 41 C dX0_popState_38 X kf_X0_9 0 rfl rfl rfl ?_
    refine x_iload_n 42 C dX0_popState_41 hl 1 rfl rfl ?_
    refine x_aload_n 43 C dX0_popState_42 hl 0 rfl rfl ?_
    refine x_get 46 C dX0_popState_43 X kf_X0_16 0 rfl rfl rfl ?_
    refine x_aload_n 47 C dX0_popState_46 hl 0 rfl rfl ?_
    refine x_get 50 C dX0_popState_47 X kf_X0_39 0 rfl rfl rfl ?_
    refine x_bipush 52 C dX0_popState_50 (8 : Int32) kv_bipush_8 rfl ?_
    refine x_imul 53 C dX0_popState_52 rfl ?_
    refine x_iload_n 54 C dX0_popState_53 hl 1 rfl rfl ?_
    refine x_iadd 55 C dX0_popState_54 rfl ?_
    refine x_iald 56 C dX0_popState_55 X 3 rfl hf rfl (fun hf => ?_)
    refine x_iast 57 C dX0_popState_56 X 1 rfl (w5_X0 T h0 h1 h2 h3 h4 h5 m_full m_kept (upd m_partA (v1).toNatClampNeg (m_keptA (((m_kept * (8 : Int32)) + v1)).toNatClampNeg)) m_partB m_keptA m_keptB m_keptFull) rfl hf rfl (fun H locs X hf => ?_)
    refine x_aload_n 58 C dX0_popState_57 hl 0 rfl rfl ?_
    refine x_get 61 C dX0_popState_58 X kf_X0_13 0 rfl rfl rfl ?_
    refine x_iload_n 62 C dX0_popState_61 hl 1 rfl rfl ?_
    refine x_aload_n 63 C dX0_popState_62 hl 0 rfl rfl ?_
    refine x_get 66 C dX0_popState_63 X kf_X0_19 0 rfl rfl rfl ?_
    refine x_aload_n 67 C dX0_popState_66 hl 0 rfl rfl ?_
    refine x_get 70 C dX0_popState_67 X kf_X0_39 0 rfl rfl rfl ?_
    refine x_bipush 72 C dX0_popState_70 (8 : Int32) kv_bipush_8 rfl ?_
    refine x_imul 73 C dX0_popState_72 rfl ?_
    refine x_iload_n 74 C dX0_popState_73 hl 1 rfl rfl ?_
    refine x_iadd 75 C dX0_popState_74 rfl ?_
    refine x_iald 76 C dX0_popState_75 X 4 rfl hf rfl (fun hf => ?_)
    refine x_iast 77 C dX0_popState_76 X 2 rfl (w5_X0 T h0 h1 h2 h3 h4 h5 m_full m_kept (upd m_partA (v1).toNatClampNeg (m_keptA (((m_kept * (8 : Int32)) + v1)).toNatClampNeg)) (upd m_partB (v1).toNatClampNeg (m_keptB (((m_kept * (8 : Int32)) + v1)).toNatClampNeg)) m_keptA m_keptB m_keptFull) rfl hf rfl (fun H locs X hf => ?_)
    refine x_iinc 80 C dX0_popState_77 (1 : Int32) kv_iconst_1 [(1, .int (v1 + (1 : Int32))), (0, .ref h0)] hl 1 rfl rfl rfl rfl (fun ls hl => ?_)
    refine x_goto 31 C dX0_popState_80 rfl ?_
    exact ih m_full m_kept (upd m_partA (v1).toNatClampNeg (m_keptA (((m_kept * (8 : Int32)) + v1)).toNatClampNeg)) (upd m_partB (v1).toNatClampNeg (m_keptB (((m_kept * (8 : Int32)) + v1)).toNatClampNeg)) (v1 + (1 : Int32)) _ _ _ X (lv_sub hl [1, 0] rfl) hf
set_option maxHeartbeats 4000000 in
set_option maxRecDepth 100000 in
theorem c_X0_popState (l : Launch) (D : va_G) (T : KT) (h0 h1 h2 h3 h4 h5 : Nat) (N : Nat)  (m_full m_kept : Int32) (m_partA m_partB m_keptA m_keptB m_keptFull : Nat → Int32) (x : Int32 × Int32 × Int32 × (Nat → Int32) × (Nat → Int32)) (hf : f_X0_popState N m_full m_kept m_partA m_partB m_keptA m_keptB m_keptFull = some x) : kx_MI l yX0_popState cX0_popState 2 (some .boolean) 0 0 D T [.ref h0] (w5_X0 T h0 h1 h2 h3 h4 h5 m_full m_kept m_partA m_partB m_keptA m_keptB m_keptFull) (w5_X0 T h0 h1 h2 h3 h4 h5 x.2.1 x.2.2.1 x.2.2.2.1 x.2.2.2.2 m_keptA m_keptB m_keptFull) x.1 := by
  refine kx_ofMZ RX0 rfl (plainFor_of_name (x := yX0_popState) kpn_X0) rfl ?_
  intro E A H ls _ C X R hl
  have hl : lv_has ls 2 [(0, .ref h0)] := hl
  rw [f_X0_popState] at hf
  refine x_aload_n 1 C dX0_popState_0 hl 0 rfl rfl ?_
  refine x_get 4 C dX0_popState_1 X kf_X0_39 0 rfl rfl rfl ?_
  refine x_iconst 5 C dX0_popState_4 (1 : Int32) kv_iconst_1 rfl ?_
  refine x_icmp_lt 17 8 C dX0_popState_5 rfl rfl hf (fun hf => ?_) (fun hf => ?_)
  · refine x_iconst 18 C dX0_popState_17 (0 : Int32) kv_iconst_0 rfl ?_
    obtain rfl := Option.some.inj hf
    exact R _ _ _ _ X kb_0 dX0_popState_18
  refine x_aload_n 9 C dX0_popState_8 hl 0 rfl rfl ?_
  refine x_get 12 C dX0_popState_9 X kf_X0_39 0 rfl rfl rfl ?_
  refine x_bipush 14 C dX0_popState_12 (12 : Int32) kv_bipush_12 rfl ?_
  refine x_icmp_le 19 17 C dX0_popState_14 rfl rfl hf (fun hf => ?_) (fun hf => ?_)
  · refine x_aload_n 20 C dX0_popState_19 hl 0 rfl rfl ?_
    refine x_dup 21 C dX0_popState_20 rfl rfl ?_
    refine x_get 24 C dX0_popState_21 X kf_X0_39 0 rfl rfl rfl ?_
    refine x_iconst 25 C dX0_popState_24 (1 : Int32) kv_iconst_1 rfl ?_
    refine x_isub 26 C dX0_popState_25 rfl ?_
    refine x_put 29 C dX0_popState_26 X kp_X0_39 0 rfl rfl rfl rfl (w5_X0 T h0 h1 h2 h3 h4 h5 m_full (m_kept - (1 : Int32)) m_partA m_partB m_keptA m_keptB m_keptFull) rfl rfl (fun H locs X => ?_)
    refine x_iconst 30 C dX0_popState_29 (0 : Int32) kv_iconst_0 rfl ?_
    refine x_istore_n 31 C dX0_popState_30 [(1, .int (0 : Int32)), (0, .ref h0)] hl rfl rfl rfl (fun ls hl => ?_)
    exact w_X0_popState_31 h0 h1 h2 h3 h4 h5 C N x m_keptA m_keptB m_keptFull R  N m_full (m_kept - (1 : Int32)) m_partA m_partB (0 : Int32) _ _ _ X (lv_sub hl [1, 0] rfl) hf
  refine x_iconst 18 C dX0_popState_17 (0 : Int32) kv_iconst_0 rfl ?_
  obtain rfl := Option.some.inj hf
  exact R _ _ _ _ X kb_0 dX0_popState_18
set_option maxHeartbeats 4000000 in
set_option maxRecDepth 100000 in
theorem c_X10_undo (l : Launch) (D : va_G) (T : KT) (h : Nat → Nat) (N : Nat)  (m_drawers_full m_drawers_kept : Int32) (m_drawers_partA m_drawers_partB m_drawers_keptA m_drawers_keptB m_drawers_keptFull : Nat → Int32) (m_tape_size m_tape_plain m_tape_omegas m_tape_end m_tape_place m_tape_plainTold m_tape_omegasTold : Int32) (m_tape_bytes : Nat → Int32) (m_euclid_count : Int32) (m_euclid_last_a m_euclid_last_b m_euclid_lastOfFirst_a m_euclid_lastOfFirst_b m_euclid_lastOfSecond_a m_euclid_lastOfSecond_b m_euclid_next_a m_euclid_next_b m_euclid_nextOfFirst_a m_euclid_nextOfFirst_b m_euclid_nextOfSecond_a m_euclid_nextOfSecond_b m_euclid_q_a m_euclid_q_b : Int64) (m_euclid_quotientA m_euclid_quotientB : Nat → Int64) (m_modulus_step m_modulus_width m_modulus_slant m_modulus_square_a m_modulus_square_b : Int64) (m_factors_count m_factors_threes m_factors_unit : Int32) (m_factors_primeA m_factors_primeB m_factors_norms : Nat → Int64) (m_factors_euclid_count : Int32) (m_factors_euclid_last_a m_factors_euclid_last_b m_factors_euclid_lastOfFirst_a m_factors_euclid_lastOfFirst_b m_factors_euclid_lastOfSecond_a m_factors_euclid_lastOfSecond_b m_factors_euclid_next_a m_factors_euclid_next_b m_factors_euclid_nextOfFirst_a m_factors_euclid_nextOfFirst_b m_factors_euclid_nextOfSecond_a m_factors_euclid_nextOfSecond_b m_factors_euclid_q_a m_factors_euclid_q_b : Int64) (m_factors_euclid_quotientA m_factors_euclid_quotientB : Nat → Int64) (m_factors_left_a m_factors_left_b m_factors_found_a m_factors_found_b m_factors_product_a m_factors_product_b : Int64) (m_primes_count : Int32) (m_primes_primeA m_primes_primeB : Nat → Int32) (m_primes_found_a m_primes_found_b : Int64) (m_rings_foundA m_rings_foundB m_rings_all m_rings_mostOfOneRow m_letters_count : Int32) (m_letters_bytes : Nat → Int32) (m_one_a m_one_b m_two_a m_two_b m_three_a m_three_b m_four_a m_four_b m_out_a m_out_b m_spare_a m_spare_b : Int64) (m_marks : Nat → Int32) (x : Int32 × Int32 × Int32 × (Nat → Int32) × (Nat → Int32)) (hf : f_X10_undo N m_drawers_full m_drawers_kept m_drawers_partA m_drawers_partB m_drawers_keptA m_drawers_keptB m_drawers_keptFull = some x) : kx_MI l yX10_undo cX10_undo 1 (some .int) 1 21 D T [.ref (h 0)] (wC T h m_drawers_full m_drawers_kept m_drawers_partA m_drawers_partB m_drawers_keptA m_drawers_keptB m_drawers_keptFull m_tape_size m_tape_plain m_tape_omegas m_tape_end m_tape_place m_tape_plainTold m_tape_omegasTold m_tape_bytes m_euclid_count m_euclid_last_a m_euclid_last_b m_euclid_lastOfFirst_a m_euclid_lastOfFirst_b m_euclid_lastOfSecond_a m_euclid_lastOfSecond_b m_euclid_next_a m_euclid_next_b m_euclid_nextOfFirst_a m_euclid_nextOfFirst_b m_euclid_nextOfSecond_a m_euclid_nextOfSecond_b m_euclid_q_a m_euclid_q_b m_euclid_quotientA m_euclid_quotientB m_modulus_step m_modulus_width m_modulus_slant m_modulus_square_a m_modulus_square_b m_factors_count m_factors_threes m_factors_unit m_factors_primeA m_factors_primeB m_factors_norms m_factors_euclid_count m_factors_euclid_last_a m_factors_euclid_last_b m_factors_euclid_lastOfFirst_a m_factors_euclid_lastOfFirst_b m_factors_euclid_lastOfSecond_a m_factors_euclid_lastOfSecond_b m_factors_euclid_next_a m_factors_euclid_next_b m_factors_euclid_nextOfFirst_a m_factors_euclid_nextOfFirst_b m_factors_euclid_nextOfSecond_a m_factors_euclid_nextOfSecond_b m_factors_euclid_q_a m_factors_euclid_q_b m_factors_euclid_quotientA m_factors_euclid_quotientB m_factors_left_a m_factors_left_b m_factors_found_a m_factors_found_b m_factors_product_a m_factors_product_b m_primes_count m_primes_primeA m_primes_primeB m_primes_found_a m_primes_found_b m_rings_foundA m_rings_foundB m_rings_all m_rings_mostOfOneRow m_letters_count m_letters_bytes m_one_a m_one_b m_two_a m_two_b m_three_a m_three_b m_four_a m_four_b m_out_a m_out_b m_spare_a m_spare_b m_marks) (wC T h x.2.1 x.2.2.1 x.2.2.2.1 x.2.2.2.2 m_drawers_keptA m_drawers_keptB m_drawers_keptFull m_tape_size m_tape_plain m_tape_omegas m_tape_end m_tape_place m_tape_plainTold m_tape_omegasTold m_tape_bytes m_euclid_count m_euclid_last_a m_euclid_last_b m_euclid_lastOfFirst_a m_euclid_lastOfFirst_b m_euclid_lastOfSecond_a m_euclid_lastOfSecond_b m_euclid_next_a m_euclid_next_b m_euclid_nextOfFirst_a m_euclid_nextOfFirst_b m_euclid_nextOfSecond_a m_euclid_nextOfSecond_b m_euclid_q_a m_euclid_q_b m_euclid_quotientA m_euclid_quotientB m_modulus_step m_modulus_width m_modulus_slant m_modulus_square_a m_modulus_square_b m_factors_count m_factors_threes m_factors_unit m_factors_primeA m_factors_primeB m_factors_norms m_factors_euclid_count m_factors_euclid_last_a m_factors_euclid_last_b m_factors_euclid_lastOfFirst_a m_factors_euclid_lastOfFirst_b m_factors_euclid_lastOfSecond_a m_factors_euclid_lastOfSecond_b m_factors_euclid_next_a m_factors_euclid_next_b m_factors_euclid_nextOfFirst_a m_factors_euclid_nextOfFirst_b m_factors_euclid_nextOfSecond_a m_factors_euclid_nextOfSecond_b m_factors_euclid_q_a m_factors_euclid_q_b m_factors_euclid_quotientA m_factors_euclid_quotientB m_factors_left_a m_factors_left_b m_factors_found_a m_factors_found_b m_factors_product_a m_factors_product_b m_primes_count m_primes_primeA m_primes_primeB m_primes_found_a m_primes_found_b m_rings_foundA m_rings_foundB m_rings_all m_rings_mostOfOneRow m_letters_count m_letters_bytes m_one_a m_one_b m_two_a m_two_b m_three_a m_three_b m_four_a m_four_b m_out_a m_out_b m_spare_a m_spare_b m_marks) x.1 := by
  refine kx_ofMI RX10 rfl (plainFor_of_name (x := yX10_undo) kpn_X10) rfl ?_
  intro E A H ls _ C X R hl
  have hl : lv_has ls 1 [(0, .ref (h 0))] := hl
  rw [f_X10_undo] at hf
  refine x_aload_n 1 C dX10_undo_0 hl 0 rfl rfl ?_
  refine x_get 4 C dX10_undo_1 X kf_X10_12 0 rfl rfl rfl ?_
  obtain ⟨y4, hy4, hf⟩ := kx_bind hf
  refine x_callVi 7 C dX10_undo_4 X hl kl_X10_463 (c_X0_popState E.2.1 D T (h 1) (h 2) (h 3) (h 4) (h 5) (h 6) N  m_drawers_full m_drawers_kept m_drawers_partA m_drawers_partB m_drawers_keptA m_drawers_keptB m_drawers_keptFull y4 hy4) rfl rfl [] rfl rfl rfl rfl rfl cb_140 rfl (fun H locs X => ?_)
  refine x_if_eq 20 10 C dX10_undo_7 rfl rfl hf (fun hf => ?_) (fun hf => ?_)
  · refine x_iconst 21 C dX10_undo_20 (-1 : Int32) kv_iconst_m1 rfl ?_
    obtain rfl := Option.some.inj hf
    exact R _ _ _ _ X dX10_undo_21
  refine x_aload_n 11 C dX10_undo_10 hl 0 rfl rfl ?_
  refine x_get 14 C dX10_undo_11 X kf_X10_12 0 rfl rfl rfl ?_
  refine x_get 17 C dX10_undo_14 X kf_X10_457 1 rfl rfl rfl ?_
  refine x_goto 21 C dX10_undo_17 rfl ?_
  obtain rfl := Option.some.inj hf
  exact R _ _ _ _ X dX10_undo_21
set_option maxHeartbeats 4000000 in
set_option maxRecDepth 100000 in
theorem w_X11_undo_21 {E : KE} {A : Nat → Prop} {D : va_G} {T : KT} (h : Nat → Nat) (C : kx_C E cX11_undo 2 (some .int) RX11 0 0 D T) (N : Nat) (x : Int32 × Int32 × (Nat → Int32) × (Nat → Int32) × (Nat → Int32)) (m_taped : Int32) (m_ra m_rb : Int64) (m_threes m_primes m_ones m_unit : Int32) (m_allParts m_allNorms m_allClasses : Int64) (m_odd : Int32) (m_boxWide m_boxHigh m_boxStep : Int64) (m_partingMany : Int32) (m_qa m_qb m_la m_lb m_sa m_sb m_ta m_tb : Int64) (m_listed m_tells m_wanted m_found : Int32) (m_bits : Int64) (m_power2 m_rings m_ringA m_ringB m_seedNow : Int32) (m_tape m_keptHas m_keptFirst m_keptSecond m_pa m_pb m_pNorm m_cubed m_isOpen m_signs m_often m_la0 m_lb0 : Nat → Int32) (R : kx_RI E cX11_undo D A (wM T h m_taped x.2.1 m_ra m_rb m_threes m_primes m_ones m_unit m_allParts m_allNorms m_allClasses m_odd m_boxWide m_boxHigh m_boxStep m_partingMany m_qa m_qb m_la m_lb m_sa m_sb m_ta m_tb m_listed m_tells m_wanted m_found m_bits m_power2 m_rings m_ringA m_ringB m_seedNow m_tape x.2.2.1 m_keptHas x.2.2.2.1 x.2.2.2.2 m_keptFirst m_keptSecond m_pa m_pb m_pNorm m_cubed m_isOpen m_signs m_often m_la0 m_lb0) x.1) : ∀ (k : Nat), ∀ (m_states : Int32) (m_has m_first m_second : Nat → Int32) (v1 : Int32) (H : Heap) (locs : List Loc) (ls : Array Slot), kx_H E D A H locs (wM T h m_taped m_states m_ra m_rb m_threes m_primes m_ones m_unit m_allParts m_allNorms m_allClasses m_odd m_boxWide m_boxHigh m_boxStep m_partingMany m_qa m_qb m_la m_lb m_sa m_sb m_ta m_tb m_listed m_tells m_wanted m_found m_bits m_power2 m_rings m_ringA m_ringB m_seedNow m_tape m_has m_keptHas m_first m_second m_keptFirst m_keptSecond m_pa m_pb m_pNorm m_cubed m_isOpen m_signs m_often m_la0 m_lb0) → lv_has ls 2 [(0, .ref (h 0)), (1, .int v1)] → f_X11_undo_21 N k v1 m_states m_has m_keptHas m_first m_second m_keptFirst m_keptSecond = some x → kx_W E H locs 21 ls [] := by
  intro k
  induction k with
  | zero =>
    intro m_states m_has m_first m_second v1 H locs ls X hl hf
    cases (show (none : Option (Int32 × Int32 × (Nat → Int32) × (Nat → Int32) × (Nat → Int32))) = some x from hf)
  | succ k ih =>
    intro m_states m_has m_first m_second v1 H locs ls X hl hf
    rw [f_X11_undo_21] at hf
    refine x_iload_n 22 C dX11_undo_21 hl 1 rfl rfl ?_
    refine x_bipush 24 C dX11_undo_22 (8 : Int32) kv_bipush_8 rfl ?_
    refine x_icmp_ge 93 27 C dX11_undo_24 rfl rfl hf (fun hf => ?_) (fun hf => ?_)
    · refine x_aload_n 94 C dX11_undo_93 hl 0 rfl rfl ?_
      refine x_get 97 C dX11_undo_94 X kf_X11_102 0 rfl rfl rfl ?_
      obtain rfl := Option.some.inj hf
      exact R _ _ _ _ X dX11_undo_97
    refine x_aload_n 28 C dX11_undo_27 hl 0 rfl rfl ?_
    refine x_get 31 C dX11_undo_28 X kf_X11_13 0 rfl rfl rfl ?_
    refine x_iload_n 32 C dX11_undo_31 hl 1 rfl rfl ?_
    refine x_aload_n 33 C dX11_undo_32 hl 0 rfl rfl ?_
    refine x_get 36 C dX11_undo_33 X kf_X11_17 0 rfl rfl rfl ?_
    refine x_bipush 38 C dX11_undo_36 (8 : Int32) kv_bipush_8 rfl ?_
    refine x_aload_n 39 C dX11_undo_38 hl 0 rfl rfl ?_
    refine x_get 42 C dX11_undo_39 X kf_X11_102 0 rfl rfl rfl ?_
    refine x_imul 43 C dX11_undo_42 rfl ?_
    refine x_iload_n 44 C dX11_undo_43 hl 1 rfl rfl ?_
    refine x_iadd 45 C dX11_undo_44 rfl ?_
    refine x_zald 46 C dX11_undo_45 X 3 rfl hf rfl (fun hf => ?_)
    refine x_zast 47 C dX11_undo_46 X 2 rfl (wM T h m_taped m_states m_ra m_rb m_threes m_primes m_ones m_unit m_allParts m_allNorms m_allClasses m_odd m_boxWide m_boxHigh m_boxStep m_partingMany m_qa m_qb m_la m_lb m_sa m_sb m_ta m_tb m_listed m_tells m_wanted m_found m_bits m_power2 m_rings m_ringA m_ringB m_seedNow m_tape (upd m_has (v1).toNatClampNeg ((m_keptHas ((((8 : Int32) * m_states) + v1)).toNatClampNeg) &&& 1)) m_keptHas m_first m_second m_keptFirst m_keptSecond m_pa m_pb m_pNorm m_cubed m_isOpen m_signs m_often m_la0 m_lb0) rfl hf rfl (fun H locs X hf => ?_)
    refine x_aload_n 48 C dX11_undo_47 hl 0 rfl rfl ?_
    refine x_get 51 C dX11_undo_48 X kf_X11_20 0 rfl rfl rfl ?_
    refine x_iload_n 52 C dX11_undo_51 hl 1 rfl rfl ?_
    refine x_aload_n 53 C dX11_undo_52 hl 0 rfl rfl ?_
    refine x_get 56 C dX11_undo_53 X kf_X11_27 0 rfl rfl rfl ?_
    refine x_bipush 58 C dX11_undo_56 (8 : Int32) kv_bipush_8 rfl ?_
    refine x_aload_n 59 C dX11_undo_58 hl 0 rfl rfl ?_
    refine x_get 62 C dX11_undo_59 X kf_X11_102 0 rfl rfl rfl ?_
    refine x_imul 63 C dX11_undo_62 rfl ?_
    refine x_iload_n 64 C dX11_undo_63 hl 1 rfl rfl ?_
    refine x_iadd 65 C dX11_undo_64 rfl ?_
    refine x_iald 66 C dX11_undo_65 X 6 rfl hf rfl (fun hf => ?_)
    refine x_iast 67 C dX11_undo_66 X 4 rfl (wM T h m_taped m_states m_ra m_rb m_threes m_primes m_ones m_unit m_allParts m_allNorms m_allClasses m_odd m_boxWide m_boxHigh m_boxStep m_partingMany m_qa m_qb m_la m_lb m_sa m_sb m_ta m_tb m_listed m_tells m_wanted m_found m_bits m_power2 m_rings m_ringA m_ringB m_seedNow m_tape (upd m_has (v1).toNatClampNeg ((m_keptHas ((((8 : Int32) * m_states) + v1)).toNatClampNeg) &&& 1)) m_keptHas (upd m_first (v1).toNatClampNeg (m_keptFirst ((((8 : Int32) * m_states) + v1)).toNatClampNeg)) m_second m_keptFirst m_keptSecond m_pa m_pb m_pNorm m_cubed m_isOpen m_signs m_often m_la0 m_lb0) rfl hf rfl (fun H locs X hf => ?_)
    refine x_aload_n 68 C dX11_undo_67 hl 0 rfl rfl ?_
    refine x_get 71 C dX11_undo_68 X kf_X11_24 0 rfl rfl rfl ?_
    refine x_iload_n 72 C dX11_undo_71 hl 1 rfl rfl ?_
    refine x_aload_n 73 C dX11_undo_72 hl 0 rfl rfl ?_
    refine x_get 76 C dX11_undo_73 X kf_X11_30 0 rfl rfl rfl ?_
    refine x_bipush 78 C dX11_undo_76 (8 : Int32) kv_bipush_8 rfl ?_
    refine x_aload_n 79 C dX11_undo_78 hl 0 rfl rfl ?_
    refine x_get 82 C dX11_undo_79 X kf_X11_102 0 rfl rfl rfl ?_
    refine x_imul 83 C dX11_undo_82 rfl ?_
    refine x_iload_n 84 C dX11_undo_83 hl 1 rfl rfl ?_
    refine x_iadd 85 C dX11_undo_84 rfl ?_
    refine x_iald 86 C dX11_undo_85 X 7 rfl hf rfl (fun hf => ?_)
    refine x_iast 87 C dX11_undo_86 X 5 rfl (wM T h m_taped m_states m_ra m_rb m_threes m_primes m_ones m_unit m_allParts m_allNorms m_allClasses m_odd m_boxWide m_boxHigh m_boxStep m_partingMany m_qa m_qb m_la m_lb m_sa m_sb m_ta m_tb m_listed m_tells m_wanted m_found m_bits m_power2 m_rings m_ringA m_ringB m_seedNow m_tape (upd m_has (v1).toNatClampNeg ((m_keptHas ((((8 : Int32) * m_states) + v1)).toNatClampNeg) &&& 1)) m_keptHas (upd m_first (v1).toNatClampNeg (m_keptFirst ((((8 : Int32) * m_states) + v1)).toNatClampNeg)) (upd m_second (v1).toNatClampNeg (m_keptSecond ((((8 : Int32) * m_states) + v1)).toNatClampNeg)) m_keptFirst m_keptSecond m_pa m_pb m_pNorm m_cubed m_isOpen m_signs m_often m_la0 m_lb0) rfl hf rfl (fun H locs X hf => ?_)
    refine x_iinc 90 C dX11_undo_87 (1 : Int32) kv_iconst_1 [(1, .int (v1 + (1 : Int32))), (0, .ref (h 0))] hl 1 rfl rfl rfl rfl (fun ls hl => ?_)
    refine x_goto 21 C dX11_undo_90 rfl ?_
    exact ih m_states (upd m_has (v1).toNatClampNeg ((m_keptHas ((((8 : Int32) * m_states) + v1)).toNatClampNeg) &&& 1)) (upd m_first (v1).toNatClampNeg (m_keptFirst ((((8 : Int32) * m_states) + v1)).toNatClampNeg)) (upd m_second (v1).toNatClampNeg (m_keptSecond ((((8 : Int32) * m_states) + v1)).toNatClampNeg)) (v1 + (1 : Int32)) _ _ _ X (lv_sub hl [1, 0] rfl) hf
set_option maxHeartbeats 4000000 in
set_option maxRecDepth 100000 in
theorem c_X11_undo (l : Launch) (D : va_G) (T : KT) (h : Nat → Nat) (N : Nat)  (m_taped m_states : Int32) (m_ra m_rb : Int64) (m_threes m_primes m_ones m_unit : Int32) (m_allParts m_allNorms m_allClasses : Int64) (m_odd : Int32) (m_boxWide m_boxHigh m_boxStep : Int64) (m_partingMany : Int32) (m_qa m_qb m_la m_lb m_sa m_sb m_ta m_tb : Int64) (m_listed m_tells m_wanted m_found : Int32) (m_bits : Int64) (m_power2 m_rings m_ringA m_ringB m_seedNow : Int32) (m_tape m_has m_keptHas m_first m_second m_keptFirst m_keptSecond m_pa m_pb m_pNorm m_cubed m_isOpen m_signs m_often m_la0 m_lb0 : Nat → Int32) (x : Int32 × Int32 × (Nat → Int32) × (Nat → Int32) × (Nat → Int32)) (hf : f_X11_undo N m_states m_has m_keptHas m_first m_second m_keptFirst m_keptSecond = some x) : kx_MI l yX11_undo cX11_undo 2 (some .int) 0 0 D T [.ref (h 0)] (wM T h m_taped m_states m_ra m_rb m_threes m_primes m_ones m_unit m_allParts m_allNorms m_allClasses m_odd m_boxWide m_boxHigh m_boxStep m_partingMany m_qa m_qb m_la m_lb m_sa m_sb m_ta m_tb m_listed m_tells m_wanted m_found m_bits m_power2 m_rings m_ringA m_ringB m_seedNow m_tape m_has m_keptHas m_first m_second m_keptFirst m_keptSecond m_pa m_pb m_pNorm m_cubed m_isOpen m_signs m_often m_la0 m_lb0) (wM T h m_taped x.2.1 m_ra m_rb m_threes m_primes m_ones m_unit m_allParts m_allNorms m_allClasses m_odd m_boxWide m_boxHigh m_boxStep m_partingMany m_qa m_qb m_la m_lb m_sa m_sb m_ta m_tb m_listed m_tells m_wanted m_found m_bits m_power2 m_rings m_ringA m_ringB m_seedNow m_tape x.2.2.1 m_keptHas x.2.2.2.1 x.2.2.2.2 m_keptFirst m_keptSecond m_pa m_pb m_pNorm m_cubed m_isOpen m_signs m_often m_la0 m_lb0) x.1 := by
  refine kx_ofMI RX11 rfl (plainFor_of_name (x := yX11_undo) kpn_X11) rfl ?_
  intro E A H ls _ C X R hl
  have hl : lv_has ls 2 [(0, .ref (h 0))] := hl
  rw [f_X11_undo] at hf
  refine x_aload_n 1 C dX11_undo_0 hl 0 rfl rfl ?_
  refine x_get 4 C dX11_undo_1 X kf_X11_102 0 rfl rfl rfl ?_
  refine x_if_ne 9 7 C dX11_undo_4 rfl rfl hf (fun hf => ?_) (fun hf => ?_)
  · refine x_aload_n 10 C dX11_undo_9 hl 0 rfl rfl ?_
    refine x_aload_n 11 C dX11_undo_10 hl 0 rfl rfl ?_
    refine x_get 14 C dX11_undo_11 X kf_X11_102 0 rfl rfl rfl ?_
    refine x_iconst 15 C dX11_undo_14 (1 : Int32) kv_iconst_1 rfl ?_
    refine x_isub 16 C dX11_undo_15 rfl ?_
    refine x_put 19 C dX11_undo_16 X kp_X11_102 0 rfl rfl rfl rfl (wM T h m_taped (m_states - (1 : Int32)) m_ra m_rb m_threes m_primes m_ones m_unit m_allParts m_allNorms m_allClasses m_odd m_boxWide m_boxHigh m_boxStep m_partingMany m_qa m_qb m_la m_lb m_sa m_sb m_ta m_tb m_listed m_tells m_wanted m_found m_bits m_power2 m_rings m_ringA m_ringB m_seedNow m_tape m_has m_keptHas m_first m_second m_keptFirst m_keptSecond m_pa m_pb m_pNorm m_cubed m_isOpen m_signs m_often m_la0 m_lb0) rfl rfl (fun H locs X => ?_)
    refine x_iconst 20 C dX11_undo_19 (0 : Int32) kv_iconst_0 rfl ?_
    refine x_istore_n 21 C dX11_undo_20 [(1, .int (0 : Int32)), (0, .ref (h 0))] hl rfl rfl rfl (fun ls hl => ?_)
    exact w_X11_undo_21 h C N x m_taped m_ra m_rb m_threes m_primes m_ones m_unit m_allParts m_allNorms m_allClasses m_odd m_boxWide m_boxHigh m_boxStep m_partingMany m_qa m_qb m_la m_lb m_sa m_sb m_ta m_tb m_listed m_tells m_wanted m_found m_bits m_power2 m_rings m_ringA m_ringB m_seedNow m_tape m_keptHas m_keptFirst m_keptSecond m_pa m_pb m_pNorm m_cubed m_isOpen m_signs m_often m_la0 m_lb0 R  N (m_states - (1 : Int32)) m_has m_first m_second (0 : Int32) _ _ _ X (lv_sub hl [1, 0] rfl) hf
  refine x_iconst 8 C dX11_undo_7 (-1 : Int32) kv_iconst_m1 rfl ?_
  obtain rfl := Option.some.inj hf
  exact R _ _ _ _ X dX11_undo_8
