set_option maxHeartbeats 4000000 in
set_option maxRecDepth 100000 in
theorem c_X5_set (l : Launch) (D : va_G) (T : KT) (h0 : Nat) (v1 v3 : Int64) (m_a m_b : Int64) (x : Int64 × Int64) (hf : f_X5_set v1 v3 = some x) : kx_MV l yX5_set cX5_set 5 none 0 0 D T [.ref h0, .long v1, .long v3] (w7_X5 T h0 m_a m_b) (w7_X5 T h0 x.1 x.2) := by
  refine kx_ofMV RX5 rfl (plainFor_of_name (x := yX5_set) kpn_X5) rfl ?_
  intro E A H ls _ C X R hl
  have hl : lv_has ls 5 [(0, .ref h0), (1, .long v1), (3, .long v3)] := hl
  rw [f_X5_set] at hf
  refine x_aload_n 1 C dX5_set_0 hl 0 rfl rfl ?_
  refine x_lload_n 2 C dX5_set_1 hl 1 rfl rfl ?_
  refine x_put 5 C dX5_set_2 X kp_X5_9 0 rfl rfl rfl rfl (w7_X5 T h0 v1 m_b) rfl rfl (fun H locs X => ?_)
  refine x_aload_n 6 C dX5_set_5 hl 0 rfl rfl ?_
  refine x_lload_n 7 C dX5_set_6 hl 2 rfl rfl ?_
  refine x_put 10 C dX5_set_7 X kp_X5_15 0 rfl rfl rfl rfl (w7_X5 T h0 v1 v3) rfl rfl (fun H locs X => ?_)
  obtain rfl := Option.some.inj hf
  exact R _ _ _ _ X dX5_set_10
set_option maxHeartbeats 4000000 in
set_option maxRecDepth 100000 in
theorem c_X5_fits (l : Launch) (D : va_G) (T : KT) (h0 : Nat)  (m_a m_b : Int64) (x : Int32) (hf : f_X5_fits m_a m_b = some x) : kx_MI l yX5_fits cX5_fits 1 (some .boolean) 0 0 D T [.ref h0] (w7_X5 T h0 m_a m_b) (w7_X5 T h0 m_a m_b) x := by
  refine kx_ofMZ RX5 rfl (plainFor_of_name (x := yX5_fits) kpn_X5) rfl ?_
  intro E A H ls _ C X R hl
  have hl : lv_has ls 1 [(0, .ref h0)] := hl
  rw [f_X5_fits] at hf
  refine x_aload_n 1 C dX5_fits_0 hl 0 rfl rfl ?_
  refine x_get 4 C dX5_fits_1 X kf_X5_9 0 rfl rfl rfl ?_
  refine x_ldc2_w 7 C dX5_fits_4 (-9999 : Int64) kc_X5_18 rfl ?_
  refine x_lcmp_lt 48 8 11 C dX5_fits_7 dX5_fits_8 rfl rfl rfl hf (fun hf => ?_) (fun hf => ?_)
  · refine x_iconst 49 C dX5_fits_48 (0 : Int32) kv_iconst_0 rfl ?_
    obtain rfl := Option.some.inj hf
    exact R _ _ _ _ X kb_0 dX5_fits_49
  refine x_aload_n 12 C dX5_fits_11 hl 0 rfl rfl ?_
  refine x_get 15 C dX5_fits_12 X kf_X5_9 0 rfl rfl rfl ?_
  refine x_ldc2_w 18 C dX5_fits_15 (9999 : Int64) kc_X5_20 rfl ?_
  refine x_lcmp_gt 48 19 22 C dX5_fits_18 dX5_fits_19 rfl rfl rfl hf (fun hf => ?_) (fun hf => ?_)
  · refine x_iconst 49 C dX5_fits_48 (0 : Int32) kv_iconst_0 rfl ?_
    obtain rfl := Option.some.inj hf
    exact R _ _ _ _ X kb_0 dX5_fits_49
  refine x_aload_n 23 C dX5_fits_22 hl 0 rfl rfl ?_
  refine x_get 26 C dX5_fits_23 X kf_X5_15 0 rfl rfl rfl ?_
  refine x_ldc2_w 29 C dX5_fits_26 (-9999 : Int64) kc_X5_18 rfl ?_
  refine x_lcmp_lt 48 30 33 C dX5_fits_29 dX5_fits_30 rfl rfl rfl hf (fun hf => ?_) (fun hf => ?_)
  · refine x_iconst 49 C dX5_fits_48 (0 : Int32) kv_iconst_0 rfl ?_
    obtain rfl := Option.some.inj hf
    exact R _ _ _ _ X kb_0 dX5_fits_49
  refine x_aload_n 34 C dX5_fits_33 hl 0 rfl rfl ?_
  refine x_get 37 C dX5_fits_34 X kf_X5_15 0 rfl rfl rfl ?_
  refine x_ldc2_w 40 C dX5_fits_37 (9999 : Int64) kc_X5_20 rfl ?_
  refine x_lcmp_gt 48 41 44 C dX5_fits_40 dX5_fits_41 rfl rfl rfl hf (fun hf => ?_) (fun hf => ?_)
  · refine x_iconst 49 C dX5_fits_48 (0 : Int32) kv_iconst_0 rfl ?_
    obtain rfl := Option.some.inj hf
    exact R _ _ _ _ X kb_0 dX5_fits_49
  refine x_iconst 45 C dX5_fits_44 (1 : Int32) kv_iconst_1 rfl ?_
  refine x_goto 49 C dX5_fits_45 rfl ?_
  obtain rfl := Option.some.inj hf
  exact R _ _ _ _ X kb_1 dX5_fits_49
set_option maxHeartbeats 4000000 in
set_option maxRecDepth 100000 in
theorem c_X10_put (l : Launch) (D : va_G) (T : KT) (h : Nat → Nat) (v1 v2 v3 : Int32) (m_drawers_full m_drawers_kept : Int32) (m_drawers_partA m_drawers_partB m_drawers_keptA m_drawers_keptB m_drawers_keptFull : Nat → Int32) (m_tape_size m_tape_plain m_tape_omegas m_tape_end m_tape_place m_tape_plainTold m_tape_omegasTold : Int32) (m_tape_bytes : Nat → Int32) (m_euclid_count : Int32) (m_euclid_last_a m_euclid_last_b m_euclid_lastOfFirst_a m_euclid_lastOfFirst_b m_euclid_lastOfSecond_a m_euclid_lastOfSecond_b m_euclid_next_a m_euclid_next_b m_euclid_nextOfFirst_a m_euclid_nextOfFirst_b m_euclid_nextOfSecond_a m_euclid_nextOfSecond_b m_euclid_q_a m_euclid_q_b : Int64) (m_euclid_quotientA m_euclid_quotientB : Nat → Int64) (m_modulus_step m_modulus_width m_modulus_slant m_modulus_square_a m_modulus_square_b : Int64) (m_factors_count m_factors_threes m_factors_unit : Int32) (m_factors_primeA m_factors_primeB m_factors_norms : Nat → Int64) (m_factors_euclid_count : Int32) (m_factors_euclid_last_a m_factors_euclid_last_b m_factors_euclid_lastOfFirst_a m_factors_euclid_lastOfFirst_b m_factors_euclid_lastOfSecond_a m_factors_euclid_lastOfSecond_b m_factors_euclid_next_a m_factors_euclid_next_b m_factors_euclid_nextOfFirst_a m_factors_euclid_nextOfFirst_b m_factors_euclid_nextOfSecond_a m_factors_euclid_nextOfSecond_b m_factors_euclid_q_a m_factors_euclid_q_b : Int64) (m_factors_euclid_quotientA m_factors_euclid_quotientB : Nat → Int64) (m_factors_left_a m_factors_left_b m_factors_found_a m_factors_found_b m_factors_product_a m_factors_product_b : Int64) (m_primes_count : Int32) (m_primes_primeA m_primes_primeB : Nat → Int32) (m_primes_found_a m_primes_found_b : Int64) (m_rings_foundA m_rings_foundB m_rings_all m_rings_mostOfOneRow m_letters_count : Int32) (m_letters_bytes : Nat → Int32) (m_one_a m_one_b m_two_a m_two_b m_three_a m_three_b m_four_a m_four_b m_out_a m_out_b m_spare_a m_spare_b : Int64) (m_marks : Nat → Int32) (x : Int32 × Int32 × (Nat → Int32) × (Nat → Int32) × Int64 × Int64) (hf : f_X10_put v1 v2 v3 m_drawers_full m_drawers_partA m_drawers_partB = some x) : kx_MI l yX10_put cX10_put 4 (some .boolean) 2 43 D T [.ref (h 0), .int v1, .int v2, .int v3] (wC T h m_drawers_full m_drawers_kept m_drawers_partA m_drawers_partB m_drawers_keptA m_drawers_keptB m_drawers_keptFull m_tape_size m_tape_plain m_tape_omegas m_tape_end m_tape_place m_tape_plainTold m_tape_omegasTold m_tape_bytes m_euclid_count m_euclid_last_a m_euclid_last_b m_euclid_lastOfFirst_a m_euclid_lastOfFirst_b m_euclid_lastOfSecond_a m_euclid_lastOfSecond_b m_euclid_next_a m_euclid_next_b m_euclid_nextOfFirst_a m_euclid_nextOfFirst_b m_euclid_nextOfSecond_a m_euclid_nextOfSecond_b m_euclid_q_a m_euclid_q_b m_euclid_quotientA m_euclid_quotientB m_modulus_step m_modulus_width m_modulus_slant m_modulus_square_a m_modulus_square_b m_factors_count m_factors_threes m_factors_unit m_factors_primeA m_factors_primeB m_factors_norms m_factors_euclid_count m_factors_euclid_last_a m_factors_euclid_last_b m_factors_euclid_lastOfFirst_a m_factors_euclid_lastOfFirst_b m_factors_euclid_lastOfSecond_a m_factors_euclid_lastOfSecond_b m_factors_euclid_next_a m_factors_euclid_next_b m_factors_euclid_nextOfFirst_a m_factors_euclid_nextOfFirst_b m_factors_euclid_nextOfSecond_a m_factors_euclid_nextOfSecond_b m_factors_euclid_q_a m_factors_euclid_q_b m_factors_euclid_quotientA m_factors_euclid_quotientB m_factors_left_a m_factors_left_b m_factors_found_a m_factors_found_b m_factors_product_a m_factors_product_b m_primes_count m_primes_primeA m_primes_primeB m_primes_found_a m_primes_found_b m_rings_foundA m_rings_foundB m_rings_all m_rings_mostOfOneRow m_letters_count m_letters_bytes m_one_a m_one_b m_two_a m_two_b m_three_a m_three_b m_four_a m_four_b m_out_a m_out_b m_spare_a m_spare_b m_marks) (wC T h x.2.1 m_drawers_kept x.2.2.1 x.2.2.2.1 m_drawers_keptA m_drawers_keptB m_drawers_keptFull m_tape_size m_tape_plain m_tape_omegas m_tape_end m_tape_place m_tape_plainTold m_tape_omegasTold m_tape_bytes m_euclid_count m_euclid_last_a m_euclid_last_b m_euclid_lastOfFirst_a m_euclid_lastOfFirst_b m_euclid_lastOfSecond_a m_euclid_lastOfSecond_b m_euclid_next_a m_euclid_next_b m_euclid_nextOfFirst_a m_euclid_nextOfFirst_b m_euclid_nextOfSecond_a m_euclid_nextOfSecond_b m_euclid_q_a m_euclid_q_b m_euclid_quotientA m_euclid_quotientB m_modulus_step m_modulus_width m_modulus_slant m_modulus_square_a m_modulus_square_b m_factors_count m_factors_threes m_factors_unit m_factors_primeA m_factors_primeB m_factors_norms m_factors_euclid_count m_factors_euclid_last_a m_factors_euclid_last_b m_factors_euclid_lastOfFirst_a m_factors_euclid_lastOfFirst_b m_factors_euclid_lastOfSecond_a m_factors_euclid_lastOfSecond_b m_factors_euclid_next_a m_factors_euclid_next_b m_factors_euclid_nextOfFirst_a m_factors_euclid_nextOfFirst_b m_factors_euclid_nextOfSecond_a m_factors_euclid_nextOfSecond_b m_factors_euclid_q_a m_factors_euclid_q_b m_factors_euclid_quotientA m_factors_euclid_quotientB m_factors_left_a m_factors_left_b m_factors_found_a m_factors_found_b m_factors_product_a m_factors_product_b m_primes_count m_primes_primeA m_primes_primeB m_primes_found_a m_primes_found_b m_rings_foundA m_rings_foundB m_rings_all m_rings_mostOfOneRow m_letters_count m_letters_bytes m_one_a m_one_b m_two_a m_two_b m_three_a m_three_b m_four_a m_four_b m_out_a m_out_b x.2.2.2.2.1 x.2.2.2.2.2 m_marks) x.1 := by
  refine kx_ofMZ RX10 rfl (plainFor_of_name (x := yX10_put) kpn_X10) rfl ?_
  intro E A H ls _ C X R hl
  have hl : lv_has ls 4 [(0, .ref (h 0)), (1, .int v1), (2, .int v2), (3, .int v3)] := hl
  rw [f_X10_put] at hf
  refine x_aload_n 1 C dX10_put_0 hl 0 rfl rfl ?_
  refine x_get 4 C dX10_put_1 X kf_X10_86 0 rfl rfl rfl ?_
  refine x_iload_n 5 C dX10_put_4 hl 2 rfl rfl ?_
  refine x_i2l 6 C dX10_put_5 rfl ?_
  refine x_iload_n 7 C dX10_put_6 hl 3 rfl rfl ?_
  refine x_i2l 8 C dX10_put_7 rfl ?_
  obtain ⟨y8, hy8, hf⟩ := kx_bind hf
  refine x_callVv 11 C dX10_put_8 X hl kl_X10_122 (c_X5_set E.2.1 D T (h 50) (v2).toInt64 (v3).toInt64 m_spare_a m_spare_b y8 hy8) rfl rfl [] rfl rfl rfl rfl rfl cb_8 rfl (fun H locs X => ?_)
  refine x_iload_n 12 C dX10_put_11 hl 1 rfl rfl ?_
  obtain ⟨y12, hy12, hf⟩ := kx_bind hf
  refine x_callSi 15 C dX10_put_12 X hl kl_X10_105 (c_X0_isOne E.2.1 D T  v1  y12 hy12) [] rfl rfl rfl rfl rfl cb_2 rfl (fun H locs X => ?_)
  refine x_if_eq 28 18 C dX10_put_15 rfl rfl hf (fun hf => ?_) (fun hf => ?_)
  · refine x_iconst 29 C dX10_put_28 (0 : Int32) kv_iconst_0 rfl ?_
    obtain rfl := Option.some.inj hf
    exact R _ _ _ _ X kb_0 dX10_put_29
  refine x_aload_n 19 C dX10_put_18 hl 0 rfl rfl ?_
  refine x_get 22 C dX10_put_19 X kf_X10_86 0 rfl rfl rfl ?_
  obtain ⟨y22, hy22, hf⟩ := kx_bind hf
  refine x_callVi 25 C dX10_put_22 X hl kl_X10_126 (c_X5_fits E.2.1 D T (h 50)  y8.1 y8.2 y22 hy22) rfl rfl [] rfl rfl rfl rfl rfl cb_8 rfl (fun H locs X => ?_)
  refine x_if_ne 30 28 C dX10_put_25 rfl rfl hf (fun hf => ?_) (fun hf => ?_)
  · refine x_aload_n 31 C dX10_put_30 hl 0 rfl rfl ?_
    refine x_get 34 C dX10_put_31 X kf_X10_12 0 rfl rfl rfl ?_
    refine x_iload_n 35 C dX10_put_34 hl 1 rfl rfl ?_
    refine x_iload_n 36 C dX10_put_35 hl 2 rfl rfl ?_
    refine x_iload_n 37 C dX10_put_36 hl 3 rfl rfl ?_
    obtain ⟨y37, hy37, hf⟩ := kx_bind hf
    refine x_callVv 40 C dX10_put_37 X hl kl_X10_118 (c_X0_fill E.2.1 D T (h 1) (h 2) (h 3) (h 4) (h 5) (h 6) v1 v2 v3 m_drawers_full m_drawers_kept m_drawers_partA m_drawers_partB y37 hy37) rfl rfl [] rfl rfl rfl rfl rfl cb_3 rfl (fun H locs X => ?_)
    refine x_iconst 41 C dX10_put_40 (1 : Int32) kv_iconst_1 rfl ?_
    obtain rfl := Option.some.inj hf
    exact R _ _ _ _ X kb_1 dX10_put_41
  refine x_iconst 29 C dX10_put_28 (0 : Int32) kv_iconst_0 rfl ?_
  obtain rfl := Option.some.inj hf
  exact R _ _ _ _ X kb_0 dX10_put_29
set_option maxHeartbeats 4000000 in
set_option maxRecDepth 100000 in
theorem c_X11_isNear (l : Launch) (D : va_G) (T : KT)  (v0 v2 : Int64)  (x : Int32) (hf : f_X11_isNear v0 v2 = some x) : kx_MI l yX11_isNear cX11_isNear 4 (some .boolean) 1 25 D T [.long v0, .long v2] (w4_ T  ) (w4_ T  ) x := by
  refine kx_ofMZ RX11 rfl (plainFor_of_name (x := yX11_isNear) kpn_X11) rfl ?_
  intro E A H ls _ C X R hl
  have hl : lv_has ls 4 [(0, .long v0), (2, .long v2)] := hl
  rw [f_X11_isNear] at hf
  refine x_lload_n 1 C dX11_isNear_0 hl 0 rfl rfl ?_
  refine x_ldc2_w 4 C dX11_isNear_1 (-9999 : Int64) kc_X11_81 rfl ?_
  refine x_ldc2_w 7 C dX11_isNear_4 (9999 : Int64) kc_X11_83 rfl ?_
  obtain ⟨y7, hy7, hf⟩ := kx_bind hf
  refine x_callSi0 10 C dX11_isNear_7 X hl kl_X11_77 (c_X11_in E.2.1 D T  v0 (-9999 : Int64) (9999 : Int64)  y7 hy7) [] rfl rfl rfl rfl rfl rfl (fun H locs X => ?_)
  refine x_if_eq 30 13 C dX11_isNear_10 rfl rfl hf (fun hf => ?_) (fun hf => ?_)
  · refine x_iconst 31 C dX11_isNear_30 (0 : Int32) kv_iconst_0 rfl ?_
    obtain rfl := Option.some.inj hf
    exact R _ _ _ _ X kb_0 dX11_isNear_31
  refine x_lload_n 14 C dX11_isNear_13 hl 1 rfl rfl ?_
  refine x_ldc2_w 17 C dX11_isNear_14 (-9999 : Int64) kc_X11_81 rfl ?_
  refine x_ldc2_w 20 C dX11_isNear_17 (9999 : Int64) kc_X11_83 rfl ?_
  obtain ⟨y20, hy20, hf⟩ := kx_bind hf
  refine x_callSi0 23 C dX11_isNear_20 X hl kl_X11_77 (c_X11_in E.2.1 D T  v2 (-9999 : Int64) (9999 : Int64)  y20 hy20) [] rfl rfl rfl rfl rfl rfl (fun H locs X => ?_)
  refine x_if_eq 30 26 C dX11_isNear_23 rfl rfl hf (fun hf => ?_) (fun hf => ?_)
  · refine x_iconst 31 C dX11_isNear_30 (0 : Int32) kv_iconst_0 rfl ?_
    obtain rfl := Option.some.inj hf
    exact R _ _ _ _ X kb_0 dX11_isNear_31
  refine x_iconst 27 C dX11_isNear_26 (1 : Int32) kv_iconst_1 rfl ?_
  refine x_goto 31 C dX11_isNear_27 rfl ?_
  obtain rfl := Option.some.inj hf
  exact R _ _ _ _ X kb_1 dX11_isNear_31
set_option maxHeartbeats 4000000 in
set_option maxRecDepth 100000 in
theorem c_X11_put (l : Launch) (D : va_G) (T : KT) (h : Nat → Nat) (v1 v2 v3 : Int32) (m_taped m_states : Int32) (m_ra m_rb : Int64) (m_threes m_primes m_ones m_unit : Int32) (m_allParts m_allNorms m_allClasses : Int64) (m_odd : Int32) (m_boxWide m_boxHigh m_boxStep : Int64) (m_partingMany : Int32) (m_qa m_qb m_la m_lb m_sa m_sb m_ta m_tb : Int64) (m_listed m_tells m_wanted m_found : Int32) (m_bits : Int64) (m_power2 m_rings m_ringA m_ringB m_seedNow : Int32) (m_tape m_has m_keptHas m_first m_second m_keptFirst m_keptSecond m_pa m_pb m_pNorm m_cubed m_isOpen m_signs m_often m_la0 m_lb0 : Nat → Int32) (x : Int32 × (Nat → Int32) × (Nat → Int32) × (Nat → Int32)) (hf : f_X11_put v1 v2 v3 m_has m_first m_second = some x) : kx_MI l yX11_put cX11_put 4 (some .boolean) 2 48 D T [.ref (h 0), .int v1, .int v2, .int v3] (wM T h m_taped m_states m_ra m_rb m_threes m_primes m_ones m_unit m_allParts m_allNorms m_allClasses m_odd m_boxWide m_boxHigh m_boxStep m_partingMany m_qa m_qb m_la m_lb m_sa m_sb m_ta m_tb m_listed m_tells m_wanted m_found m_bits m_power2 m_rings m_ringA m_ringB m_seedNow m_tape m_has m_keptHas m_first m_second m_keptFirst m_keptSecond m_pa m_pb m_pNorm m_cubed m_isOpen m_signs m_often m_la0 m_lb0) (wM T h m_taped m_states m_ra m_rb m_threes m_primes m_ones m_unit m_allParts m_allNorms m_allClasses m_odd m_boxWide m_boxHigh m_boxStep m_partingMany m_qa m_qb m_la m_lb m_sa m_sb m_ta m_tb m_listed m_tells m_wanted m_found m_bits m_power2 m_rings m_ringA m_ringB m_seedNow m_tape x.2.1 m_keptHas x.2.2.1 x.2.2.2 m_keptFirst m_keptSecond m_pa m_pb m_pNorm m_cubed m_isOpen m_signs m_often m_la0 m_lb0) x.1 := by
  refine kx_ofMZ RX11 rfl (plainFor_of_name (x := yX11_put) kpn_X11) rfl ?_
  intro E A H ls _ C X R hl
  have hl : lv_has ls 4 [(0, .ref (h 0)), (1, .int v1), (2, .int v2), (3, .int v3)] := hl
  rw [f_X11_put] at hf
  refine x_iload_n 1 C dX11_put_0 hl 1 rfl rfl ?_
  obtain ⟨y1, hy1, hf⟩ := kx_bind hf
  refine x_callSi 4 C dX11_put_1 X hl kl_X11_85 (c_X11_isDrawer E.2.1 D T  v1  y1 hy1) [] rfl rfl rfl rfl rfl cb_7 rfl (fun H locs X => ?_)
  refine x_if_eq 17 7 C dX11_put_4 rfl rfl hf (fun hf => ?_) (fun hf => ?_)
  · refine x_iconst 18 C dX11_put_17 (0 : Int32) kv_iconst_0 rfl ?_
    obtain rfl := Option.some.inj hf
    exact R _ _ _ _ X kb_0 dX11_put_18
  refine x_iload_n 8 C dX11_put_7 hl 2 rfl rfl ?_
  refine x_i2l 9 C dX11_put_8 rfl ?_
  refine x_iload_n 10 C dX11_put_9 hl 3 rfl rfl ?_
  refine x_i2l 11 C dX11_put_10 rfl ?_
  obtain ⟨y11, hy11, hf⟩ := kx_bind hf
  refine x_callSi 14 C dX11_put_11 X hl kl_X11_89 (c_X11_isNear E.2.1 D T  (v2).toInt64 (v3).toInt64  y11 hy11) [] rfl rfl rfl rfl rfl cb_7 rfl (fun H locs X => ?_)
  refine x_if_ne 19 17 C dX11_put_14 rfl rfl hf (fun hf => ?_) (fun hf => ?_)
  · refine x_aload_n 20 C dX11_put_19 hl 0 rfl rfl ?_
    refine x_iload_n 21 C dX11_put_20 hl 1 rfl rfl ?_
    refine x_iload_n 22 C dX11_put_21 hl 2 rfl rfl ?_
    refine x_i2l 23 C dX11_put_22 rfl ?_
    refine x_iload_n 24 C dX11_put_23 hl 3 rfl rfl ?_
    refine x_i2l 25 C dX11_put_24 rfl ?_
    obtain ⟨y25, hy25, hf⟩ := kx_bind hf
    refine x_callVv0 28 C dX11_put_25 X hl kl_X11_93 (c_X11_puts E.2.1 D T h v1 (v2).toInt64 (v3).toInt64 m_taped m_states m_ra m_rb m_threes m_primes m_ones m_unit m_allParts m_allNorms m_allClasses m_odd m_boxWide m_boxHigh m_boxStep m_partingMany m_qa m_qb m_la m_lb m_sa m_sb m_ta m_tb m_listed m_tells m_wanted m_found m_bits m_power2 m_rings m_ringA m_ringB m_seedNow m_tape m_has m_keptHas m_first m_second m_keptFirst m_keptSecond m_pa m_pb m_pNorm m_cubed m_isOpen m_signs m_often m_la0 m_lb0 y25 hy25) rfl rfl [] rfl rfl rfl rfl rfl rfl (fun H locs X => ?_)
    refine x_iconst 29 C dX11_put_28 (1 : Int32) kv_iconst_1 rfl ?_
    obtain rfl := Option.some.inj hf
    exact R _ _ _ _ X kb_1 dX11_put_29
  refine x_iconst 18 C dX11_put_17 (0 : Int32) kv_iconst_0 rfl ?_
  obtain rfl := Option.some.inj hf
  exact R _ _ _ _ X kb_0 dX11_put_18
set_option maxHeartbeats 4000000 in
set_option maxRecDepth 100000 in
theorem c_X0_has (l : Launch) (D : va_G) (T : KT) (h0 h1 h2 h3 h4 h5 : Nat) (v1 : Int32) (m_full m_kept : Int32) (x : Int32) (hf : f_X0_has v1 m_full = some x) : kx_MI l yX0_has cX0_has 2 (some .boolean) 1 20 D T [.ref h0, .int v1] (w8_X0 T h0 h1 h2 h3 h4 h5 m_full m_kept) (w8_X0 T h0 h1 h2 h3 h4 h5 m_full m_kept) x := by
  refine kx_ofMZ RX0 rfl (plainFor_of_name (x := yX0_has) kpn_X0) rfl ?_
  intro E A H ls _ C X R hl
  have hl : lv_has ls 2 [(0, .ref h0), (1, .int v1)] := hl
  rw [f_X0_has] at hf
  refine x_iload_n 1 C dX0_has_0 hl 1 rfl rfl ?_
  obtain ⟨y1, hy1, hf⟩ := kx_bind hf
  refine x_callSi 4 C dX0_has_1 X hl kl_X0_25 (c_X0_isOne E.2.1 D T  v1  y1 hy1) [] rfl rfl rfl rfl rfl cb_10 rfl (fun H locs X => ?_)
  refine x_if_eq 23 7 C dX0_has_4 rfl rfl hf (fun hf => ?_) (fun hf => ?_)
  · refine x_iconst 24 C dX0_has_23 (0 : Int32) kv_iconst_0 rfl ?_
    obtain rfl := Option.some.inj hf
    exact R _ _ _ _ X kb_0 dX0_has_24
  refine x_aload_n 8 C dX0_has_7 hl 0 rfl rfl ?_
  refine x_get 11 C dX0_has_8 X kf_X0_29 0 rfl rfl rfl ?_
  refine x_iload_n 12 C dX0_has_11 hl 1 rfl rfl ?_
  refine x_ishr 13 C dX0_has_12 rfl ?_
  refine x_iconst 14 C dX0_has_13 (1 : Int32) kv_iconst_1 rfl ?_
  refine x_iand 15 C dX0_has_14 rfl ?_
  refine x_iconst 16 C dX0_has_15 (1 : Int32) kv_iconst_1 rfl ?_
  refine x_icmp_ne 23 19 C dX0_has_16 rfl rfl hf (fun hf => ?_) (fun hf => ?_)
  · refine x_iconst 24 C dX0_has_23 (0 : Int32) kv_iconst_0 rfl ?_
    obtain rfl := Option.some.inj hf
    exact R _ _ _ _ X kb_0 dX0_has_24
  refine x_iconst 20 C dX0_has_19 (1 : Int32) kv_iconst_1 rfl ?_
  refine x_goto 24 C dX0_has_20 rfl ?_
  obtain rfl := Option.some.inj hf
  exact R _ _ _ _ X kb_1 dX0_has_24
set_option maxHeartbeats 4000000 in
set_option maxRecDepth 100000 in
theorem c_X10_bit (l : Launch) (D : va_G) (T : KT)  (v0 : Int32)  (x : Int32) (hf : f_X10_bit v0 = some x) : kx_MI l yX10_bit cX10_bit 1 (some .int) 0 0 D T [.int v0] (w4_ T  ) (w4_ T  ) x := by
  refine kx_ofMI RX10 rfl (plainFor_of_name (x := yX10_bit) kpn_X10) rfl ?_
  intro E A H ls _ C X R hl
  have hl : lv_has ls 1 [(0, .int v0)] := hl
  rw [f_X10_bit] at hf
  refine x_iload_n 1 C dX10_bit_0 hl 0 rfl rfl ?_
  refine x_if_eq 8 4 C dX10_bit_1 rfl rfl hf (fun hf => ?_) (fun hf => ?_)
  · refine x_iconst 9 C dX10_bit_8 (0 : Int32) kv_iconst_0 rfl ?_
    obtain rfl := Option.some.inj hf
    exact R _ _ _ _ X dX10_bit_9
  refine x_iconst 5 C dX10_bit_4 (1 : Int32) kv_iconst_1 rfl ?_
  refine x_goto 9 C dX10_bit_5 rfl ?_
  obtain rfl := Option.some.inj hf
  exact R _ _ _ _ X dX10_bit_9
set_option maxHeartbeats 4000000 in
set_option maxRecDepth 100000 in
theorem c_X0_clear (l : Launch) (D : va_G) (T : KT) (h0 h1 h2 h3 h4 h5 : Nat) (v1 : Int32) (m_full m_kept : Int32) (x : Int32) (hf : f_X0_clear v1 m_full = some x) : kx_MV l yX0_clear cX0_clear 2 none 1 20 D T [.ref h0, .int v1] (w8_X0 T h0 h1 h2 h3 h4 h5 m_full m_kept) (w8_X0 T h0 h1 h2 h3 h4 h5 x m_kept) := by
  refine kx_ofMV RX0 rfl (plainFor_of_name (x := yX0_clear) kpn_X0) rfl ?_
  intro E A H ls _ C X R hl
  have hl : lv_has ls 2 [(0, .ref h0), (1, .int v1)] := hl
  rw [f_X0_clear] at hf
  refine x_iload_n 1 C dX0_clear_0 hl 1 rfl rfl ?_
  obtain ⟨y1, hy1, hf⟩ := kx_bind hf
  refine x_callSi 4 C dX0_clear_1 X hl kl_X0_25 (c_X0_isOne E.2.1 D T  v1  y1 hy1) [] rfl rfl rfl rfl rfl cb_10 rfl (fun H locs X => ?_)
  refine x_if_eq 21 7 C dX0_clear_4 rfl rfl hf (fun hf => ?_) (fun hf => ?_)
  · obtain rfl := Option.some.inj hf
    exact R _ _ _ _ X dX0_clear_21
  refine x_aload_n 8 C dX0_clear_7 hl 0 rfl rfl ?_
  refine x_aload_n 9 C dX0_clear_8 hl 0 rfl rfl ?_
  refine x_get 12 C dX0_clear_9 X kf_X0_29 0 rfl rfl rfl ?_
  refine x_iconst 13 C dX0_clear_12 (1 : Int32) kv_iconst_1 rfl ?_
  refine x_iload_n 14 C dX0_clear_13 hl 1 rfl rfl ?_
  refine x_ishl 15 C dX0_clear_14 rfl ?_
  refine x_iconst 16 C dX0_clear_15 (-1 : Int32) kv_iconst_m1 rfl ?_
  refine x_ixor 17 C dX0_clear_16 rfl ?_
  refine x_iand 18 C dX0_clear_17 rfl ?_
  refine x_put 21 C dX0_clear_18 X kp_X0_29 0 rfl rfl rfl rfl (w8_X0 T h0 h1 h2 h3 h4 h5 (m_full &&& (((1 : Int32) <<< (v1 &&& 31)) ^^^ (-1 : Int32))) m_kept) rfl rfl (fun H locs X => ?_)
  obtain rfl := Option.some.inj hf
  exact R _ _ _ _ X dX0_clear_21
set_option maxHeartbeats 4000000 in
set_option maxRecDepth 100000 in
theorem c_X10_take (l : Launch) (D : va_G) (T : KT) (h : Nat → Nat) (v1 : Int32) (m_drawers_full m_drawers_kept : Int32) (m_drawers_partA m_drawers_partB m_drawers_keptA m_drawers_keptB m_drawers_keptFull : Nat → Int32) (m_tape_size m_tape_plain m_tape_omegas m_tape_end m_tape_place m_tape_plainTold m_tape_omegasTold : Int32) (m_tape_bytes : Nat → Int32) (m_euclid_count : Int32) (m_euclid_last_a m_euclid_last_b m_euclid_lastOfFirst_a m_euclid_lastOfFirst_b m_euclid_lastOfSecond_a m_euclid_lastOfSecond_b m_euclid_next_a m_euclid_next_b m_euclid_nextOfFirst_a m_euclid_nextOfFirst_b m_euclid_nextOfSecond_a m_euclid_nextOfSecond_b m_euclid_q_a m_euclid_q_b : Int64) (m_euclid_quotientA m_euclid_quotientB : Nat → Int64) (m_modulus_step m_modulus_width m_modulus_slant m_modulus_square_a m_modulus_square_b : Int64) (m_factors_count m_factors_threes m_factors_unit : Int32) (m_factors_primeA m_factors_primeB m_factors_norms : Nat → Int64) (m_factors_euclid_count : Int32) (m_factors_euclid_last_a m_factors_euclid_last_b m_factors_euclid_lastOfFirst_a m_factors_euclid_lastOfFirst_b m_factors_euclid_lastOfSecond_a m_factors_euclid_lastOfSecond_b m_factors_euclid_next_a m_factors_euclid_next_b m_factors_euclid_nextOfFirst_a m_factors_euclid_nextOfFirst_b m_factors_euclid_nextOfSecond_a m_factors_euclid_nextOfSecond_b m_factors_euclid_q_a m_factors_euclid_q_b : Int64) (m_factors_euclid_quotientA m_factors_euclid_quotientB : Nat → Int64) (m_factors_left_a m_factors_left_b m_factors_found_a m_factors_found_b m_factors_product_a m_factors_product_b : Int64) (m_primes_count : Int32) (m_primes_primeA m_primes_primeB : Nat → Int32) (m_primes_found_a m_primes_found_b : Int64) (m_rings_foundA m_rings_foundB m_rings_all m_rings_mostOfOneRow m_letters_count : Int32) (m_letters_bytes : Nat → Int32) (m_one_a m_one_b m_two_a m_two_b m_three_a m_three_b m_four_a m_four_b m_out_a m_out_b m_spare_a m_spare_b : Int64) (m_marks : Nat → Int32) (x : Int32 × Int32) (hf : f_X10_take v1 m_drawers_full = some x) : kx_MI l yX10_take cX10_take 3 (some .int) 2 41 D T [.ref (h 0), .int v1] (wC T h m_drawers_full m_drawers_kept m_drawers_partA m_drawers_partB m_drawers_keptA m_drawers_keptB m_drawers_keptFull m_tape_size m_tape_plain m_tape_omegas m_tape_end m_tape_place m_tape_plainTold m_tape_omegasTold m_tape_bytes m_euclid_count m_euclid_last_a m_euclid_last_b m_euclid_lastOfFirst_a m_euclid_lastOfFirst_b m_euclid_lastOfSecond_a m_euclid_lastOfSecond_b m_euclid_next_a m_euclid_next_b m_euclid_nextOfFirst_a m_euclid_nextOfFirst_b m_euclid_nextOfSecond_a m_euclid_nextOfSecond_b m_euclid_q_a m_euclid_q_b m_euclid_quotientA m_euclid_quotientB m_modulus_step m_modulus_width m_modulus_slant m_modulus_square_a m_modulus_square_b m_factors_count m_factors_threes m_factors_unit m_factors_primeA m_factors_primeB m_factors_norms m_factors_euclid_count m_factors_euclid_last_a m_factors_euclid_last_b m_factors_euclid_lastOfFirst_a m_factors_euclid_lastOfFirst_b m_factors_euclid_lastOfSecond_a m_factors_euclid_lastOfSecond_b m_factors_euclid_next_a m_factors_euclid_next_b m_factors_euclid_nextOfFirst_a m_factors_euclid_nextOfFirst_b m_factors_euclid_nextOfSecond_a m_factors_euclid_nextOfSecond_b m_factors_euclid_q_a m_factors_euclid_q_b m_factors_euclid_quotientA m_factors_euclid_quotientB m_factors_left_a m_factors_left_b m_factors_found_a m_factors_found_b m_factors_product_a m_factors_product_b m_primes_count m_primes_primeA m_primes_primeB m_primes_found_a m_primes_found_b m_rings_foundA m_rings_foundB m_rings_all m_rings_mostOfOneRow m_letters_count m_letters_bytes m_one_a m_one_b m_two_a m_two_b m_three_a m_three_b m_four_a m_four_b m_out_a m_out_b m_spare_a m_spare_b m_marks) (wC T h x.2 m_drawers_kept m_drawers_partA m_drawers_partB m_drawers_keptA m_drawers_keptB m_drawers_keptFull m_tape_size m_tape_plain m_tape_omegas m_tape_end m_tape_place m_tape_plainTold m_tape_omegasTold m_tape_bytes m_euclid_count m_euclid_last_a m_euclid_last_b m_euclid_lastOfFirst_a m_euclid_lastOfFirst_b m_euclid_lastOfSecond_a m_euclid_lastOfSecond_b m_euclid_next_a m_euclid_next_b m_euclid_nextOfFirst_a m_euclid_nextOfFirst_b m_euclid_nextOfSecond_a m_euclid_nextOfSecond_b m_euclid_q_a m_euclid_q_b m_euclid_quotientA m_euclid_quotientB m_modulus_step m_modulus_width m_modulus_slant m_modulus_square_a m_modulus_square_b m_factors_count m_factors_threes m_factors_unit m_factors_primeA m_factors_primeB m_factors_norms m_factors_euclid_count m_factors_euclid_last_a m_factors_euclid_last_b m_factors_euclid_lastOfFirst_a m_factors_euclid_lastOfFirst_b m_factors_euclid_lastOfSecond_a m_factors_euclid_lastOfSecond_b m_factors_euclid_next_a m_factors_euclid_next_b m_factors_euclid_nextOfFirst_a m_factors_euclid_nextOfFirst_b m_factors_euclid_nextOfSecond_a m_factors_euclid_nextOfSecond_b m_factors_euclid_q_a m_factors_euclid_q_b m_factors_euclid_quotientA m_factors_euclid_quotientB m_factors_left_a m_factors_left_b m_factors_found_a m_factors_found_b m_factors_product_a m_factors_product_b m_primes_count m_primes_primeA m_primes_primeB m_primes_found_a m_primes_found_b m_rings_foundA m_rings_foundB m_rings_all m_rings_mostOfOneRow m_letters_count m_letters_bytes m_one_a m_one_b m_two_a m_two_b m_three_a m_three_b m_four_a m_four_b m_out_a m_out_b m_spare_a m_spare_b m_marks) x.1 := by
  refine kx_ofMI RX10 rfl (plainFor_of_name (x := yX10_take) kpn_X10) rfl ?_
  intro E A H ls _ C X R hl
  have hl : lv_has ls 3 [(0, .ref (h 0)), (1, .int v1)] := hl
  rw [f_X10_take] at hf
  refine x_iload_n 1 C dX10_take_0 hl 1 rfl rfl ?_
  obtain ⟨y1, hy1, hf⟩ := kx_bind hf
  refine x_callSi 4 C dX10_take_1 X hl kl_X10_105 (c_X0_isOne E.2.1 D T  v1  y1 hy1) [] rfl rfl rfl rfl rfl cb_2 rfl (fun H locs X => ?_)
  refine x_if_ne 9 7 C dX10_take_4 rfl rfl hf (fun hf => ?_) (fun hf => ?_)
  · refine x_aload_n 10 C dX10_take_9 hl 0 rfl rfl ?_
    refine x_get 13 C dX10_take_10 X kf_X10_12 0 rfl rfl rfl ?_
    refine x_iload_n 14 C dX10_take_13 hl 1 rfl rfl ?_
    obtain ⟨y14, hy14, hf⟩ := kx_bind hf
    refine x_callVi 17 C dX10_take_14 X hl kl_X10_130 (c_X0_has E.2.1 D T (h 1) (h 2) (h 3) (h 4) (h 5) (h 6) v1 m_drawers_full m_drawers_kept y14 hy14) rfl rfl [] rfl rfl rfl rfl rfl cb_9 rfl (fun H locs X => ?_)
    obtain ⟨y17, hy17, hf⟩ := kx_bind hf
    refine x_callSi 20 C dX10_take_17 X hl kl_X10_133 (c_X10_bit E.2.1 D T  y14  y17 hy17) [] rfl rfl rfl rfl rfl cb_2 rfl (fun H locs X => ?_)
    refine x_istore_n 21 C dX10_take_20 [(2, .int y17), (0, .ref (h 0)), (1, .int v1)] hl rfl rfl rfl (fun ls hl => ?_)
    refine x_aload_n 22 C dX10_take_21 hl 1 rfl rfl ?_
    refine x_get 25 C dX10_take_22 X kf_X10_12 0 rfl rfl rfl ?_
    refine x_iload_n 26 C dX10_take_25 hl 2 rfl rfl ?_
    obtain ⟨y26, hy26, hf⟩ := kx_bind hf
    refine x_callVv 29 C dX10_take_26 X hl kl_X10_137 (c_X0_clear E.2.1 D T (h 1) (h 2) (h 3) (h 4) (h 5) (h 6) v1 m_drawers_full m_drawers_kept y26 hy26) rfl rfl [] rfl rfl rfl rfl rfl cb_9 rfl (fun H locs X => ?_)
    refine x_iload_n 30 C dX10_take_29 hl 0 rfl rfl ?_
    obtain rfl := Option.some.inj hf
    exact R _ _ _ _ X dX10_take_30
  refine x_iconst 8 C dX10_take_7 (-1 : Int32) kv_iconst_m1 rfl ?_
  obtain rfl := Option.some.inj hf
  exact R _ _ _ _ X dX10_take_8
set_option maxHeartbeats 4000000 in
set_option maxRecDepth 100000 in
theorem c_X11_take (l : Launch) (D : va_G) (T : KT) (h : Nat → Nat) (v1 : Int32) (m_taped m_states : Int32) (m_ra m_rb : Int64) (m_threes m_primes m_ones m_unit : Int32) (m_allParts m_allNorms m_allClasses : Int64) (m_odd : Int32) (m_boxWide m_boxHigh m_boxStep : Int64) (m_partingMany : Int32) (m_qa m_qb m_la m_lb m_sa m_sb m_ta m_tb : Int64) (m_listed m_tells m_wanted m_found : Int32) (m_bits : Int64) (m_power2 m_rings m_ringA m_ringB m_seedNow : Int32) (m_tape m_has m_keptHas m_first m_second m_keptFirst m_keptSecond m_pa m_pb m_pNorm m_cubed m_isOpen m_signs m_often m_la0 m_lb0 : Nat → Int32) (x : Int32 × (Nat → Int32)) (hf : f_X11_take v1 m_has = some x) : kx_MI l yX11_take cX11_take 3 (some .int) 2 45 D T [.ref (h 0), .int v1] (wM T h m_taped m_states m_ra m_rb m_threes m_primes m_ones m_unit m_allParts m_allNorms m_allClasses m_odd m_boxWide m_boxHigh m_boxStep m_partingMany m_qa m_qb m_la m_lb m_sa m_sb m_ta m_tb m_listed m_tells m_wanted m_found m_bits m_power2 m_rings m_ringA m_ringB m_seedNow m_tape m_has m_keptHas m_first m_second m_keptFirst m_keptSecond m_pa m_pb m_pNorm m_cubed m_isOpen m_signs m_often m_la0 m_lb0) (wM T h m_taped m_states m_ra m_rb m_threes m_primes m_ones m_unit m_allParts m_allNorms m_allClasses m_odd m_boxWide m_boxHigh m_boxStep m_partingMany m_qa m_qb m_la m_lb m_sa m_sb m_ta m_tb m_listed m_tells m_wanted m_found m_bits m_power2 m_rings m_ringA m_ringB m_seedNow m_tape x.2 m_keptHas m_first m_second m_keptFirst m_keptSecond m_pa m_pb m_pNorm m_cubed m_isOpen m_signs m_often m_la0 m_lb0) x.1 := by
  refine kx_ofMI RX11 rfl (plainFor_of_name (x := yX11_take) kpn_X11) rfl ?_
  intro E A H ls _ C X R hl
  have hl : lv_has ls 3 [(0, .ref (h 0)), (1, .int v1)] := hl
  rw [f_X11_take] at hf
  refine x_iload_n 1 C dX11_take_0 hl 1 rfl rfl ?_
  obtain ⟨y1, hy1, hf⟩ := kx_bind hf
  refine x_callSi 4 C dX11_take_1 X hl kl_X11_85 (c_X11_isDrawer E.2.1 D T  v1  y1 hy1) [] rfl rfl rfl rfl rfl cb_7 rfl (fun H locs X => ?_)
  refine x_if_ne 9 7 C dX11_take_4 rfl rfl hf (fun hf => ?_) (fun hf => ?_)
  · refine x_aload_n 10 C dX11_take_9 hl 0 rfl rfl ?_
    refine x_get 13 C dX11_take_10 X kf_X11_13 0 rfl rfl rfl ?_
    refine x_iload_n 14 C dX11_take_13 hl 1 rfl rfl ?_
    refine x_zald 15 C dX11_take_14 X 2 rfl hf rfl (fun hf => ?_)
    refine x_if_eq 22 18 C dX11_take_15 rfl rfl hf (fun hf => ?_) (fun hf => ?_)
    · refine x_iconst 23 C dX11_take_22 (0 : Int32) kv_iconst_0 rfl ?_
      refine x_istore_n 24 C dX11_take_23 [(2, .int (0 : Int32)), (0, .ref (h 0)), (1, .int v1)] hl rfl rfl rfl (fun ls hl => ?_)
      refine x_aload_n 25 C dX11_take_24 hl 1 rfl rfl ?_
      refine x_get 28 C dX11_take_25 X kf_X11_13 0 rfl rfl rfl ?_
      refine x_iload_n 29 C dX11_take_28 hl 2 rfl rfl ?_
      refine x_iconst 30 C dX11_take_29 (0 : Int32) kv_iconst_0 rfl ?_
      refine x_zast 31 C dX11_take_30 X 2 rfl (wM T h m_taped m_states m_ra m_rb m_threes m_primes m_ones m_unit m_allParts m_allNorms m_allClasses m_odd m_boxWide m_boxHigh m_boxStep m_partingMany m_qa m_qb m_la m_lb m_sa m_sb m_ta m_tb m_listed m_tells m_wanted m_found m_bits m_power2 m_rings m_ringA m_ringB m_seedNow m_tape (upd m_has (v1).toNatClampNeg ((0 : Int32) &&& 1)) m_keptHas m_first m_second m_keptFirst m_keptSecond m_pa m_pb m_pNorm m_cubed m_isOpen m_signs m_often m_la0 m_lb0) rfl hf rfl (fun H locs X hf => ?_)
      refine x_iload_n 32 C dX11_take_31 hl 0 rfl rfl ?_
      obtain rfl := Option.some.inj hf
      exact R _ _ _ _ X dX11_take_32
    refine x_iconst 19 C dX11_take_18 (1 : Int32) kv_iconst_1 rfl ?_
    refine x_goto 23 C dX11_take_19 rfl ?_
    refine x_istore_n 24 C dX11_take_23 [(2, .int (1 : Int32)), (0, .ref (h 0)), (1, .int v1)] hl rfl rfl rfl (fun ls hl => ?_)
    refine x_aload_n 25 C dX11_take_24 hl 1 rfl rfl ?_
    refine x_get 28 C dX11_take_25 X kf_X11_13 0 rfl rfl rfl ?_
    refine x_iload_n 29 C dX11_take_28 hl 2 rfl rfl ?_
    refine x_iconst 30 C dX11_take_29 (0 : Int32) kv_iconst_0 rfl ?_
    refine x_zast 31 C dX11_take_30 X 2 rfl (wM T h m_taped m_states m_ra m_rb m_threes m_primes m_ones m_unit m_allParts m_allNorms m_allClasses m_odd m_boxWide m_boxHigh m_boxStep m_partingMany m_qa m_qb m_la m_lb m_sa m_sb m_ta m_tb m_listed m_tells m_wanted m_found m_bits m_power2 m_rings m_ringA m_ringB m_seedNow m_tape (upd m_has (v1).toNatClampNeg ((0 : Int32) &&& 1)) m_keptHas m_first m_second m_keptFirst m_keptSecond m_pa m_pb m_pNorm m_cubed m_isOpen m_signs m_often m_la0 m_lb0) rfl hf rfl (fun H locs X hf => ?_)
    refine x_iload_n 32 C dX11_take_31 hl 0 rfl rfl ?_
    obtain rfl := Option.some.inj hf
    exact R _ _ _ _ X dX11_take_32
  refine x_iconst 8 C dX11_take_7 (-1 : Int32) kv_iconst_m1 rfl ?_
  obtain rfl := Option.some.inj hf
  exact R _ _ _ _ X dX11_take_8
set_option maxHeartbeats 4000000 in
set_option maxRecDepth 100000 in
theorem c_X0_load (l : Launch) (D : va_G) (T : KT) (h0 h1 h2 h3 h4 h5 h6 : Nat) (v1 : Int32) (m_full m_kept : Int32) (m_partA m_partB : Nat → Int32) (m_p2_a m_p2_b : Int64) (x : Int64 × Int64) (hf : f_X0_load v1 m_partA m_partB m_p2_a m_p2_b = some x) : kx_MV l yX0_load cX0_load 3 none 1 24 D T [.ref h0, .int v1, .ref h6] (w18_X0 T h0 h1 h2 h3 h4 h5 h6 m_full m_kept m_partA m_partB m_p2_a m_p2_b) (w18_X0 T h0 h1 h2 h3 h4 h5 h6 m_full m_kept m_partA m_partB x.1 x.2) := by
  refine kx_ofMV RX0 rfl (plainFor_of_name (x := yX0_load) kpn_X0) rfl ?_
  intro E A H ls _ C X R hl
  have hl : lv_has ls 3 [(0, .ref h0), (1, .int v1), (2, .ref h6)] := hl
  rw [f_X0_load] at hf
  refine x_iload_n 1 C dX0_load_0 hl 1 rfl rfl ?_
  obtain ⟨y1, hy1, hf⟩ := kx_bind hf
  refine x_callSi 4 C dX0_load_1 X hl kl_X0_25 (c_X0_isOne E.2.1 D T  v1  y1 hy1) [] rfl rfl rfl rfl rfl cb_13 rfl (fun H locs X => ?_)
  refine x_if_eq 25 7 C dX0_load_4 rfl rfl hf (fun hf => ?_) (fun hf => ?_)
  · obtain rfl := Option.some.inj hf
    exact R _ _ _ _ X dX0_load_25
  refine x_aload_n 8 C dX0_load_7 hl 2 rfl rfl ?_
  refine x_aload_n 9 C dX0_load_8 hl 0 rfl rfl ?_
  refine x_get 12 C dX0_load_9 X kf_X0_9 0 rfl rfl rfl ?_
  refine x_iload_n 13 C dX0_load_12 hl 1 rfl rfl ?_
  refine x_iald 14 C dX0_load_13 X 1 rfl hf rfl (fun hf => ?_)
  refine x_i2l 15 C dX0_load_14 rfl ?_
  refine x_aload_n 16 C dX0_load_15 hl 0 rfl rfl ?_
  refine x_get 19 C dX0_load_16 X kf_X0_13 0 rfl rfl rfl ?_
  refine x_iload_n 20 C dX0_load_19 hl 1 rfl rfl ?_
  refine x_iald 21 C dX0_load_20 X 2 rfl hf rfl (fun hf => ?_)
  refine x_i2l 22 C dX0_load_21 rfl ?_
  obtain ⟨y22, hy22, hf⟩ := kx_bind hf
  refine x_callVv 25 C dX0_load_22 X hl kl_X0_33 (c_X5_set E.2.1 D T h6 ((m_partA (v1).toNatClampNeg)).toInt64 ((m_partB (v1).toNatClampNeg)).toInt64 m_p2_a m_p2_b y22 hy22) rfl rfl [] rfl rfl rfl rfl rfl cb_14 rfl (fun H locs X => ?_)
  obtain rfl := Option.some.inj hf
  exact R _ _ _ _ X dX0_load_25
set_option maxHeartbeats 4000000 in
set_option maxRecDepth 100000 in
theorem c_X5_norm (l : Launch) (D : va_G) (T : KT) (h0 : Nat)  (m_a m_b : Int64) (x : Int64) (hf : f_X5_norm m_a m_b = some x) : kx_ML l yX5_norm cX5_norm 1 (some .long) 0 0 D T [.ref h0] (w7_X5 T h0 m_a m_b) (w7_X5 T h0 m_a m_b) x := by
  refine kx_ofML RX5 rfl (plainFor_of_name (x := yX5_norm) kpn_X5) rfl ?_
  intro E A H ls _ C X R hl
  have hl : lv_has ls 1 [(0, .ref h0)] := hl
  rw [f_X5_norm] at hf
  refine x_aload_n 1 C dX5_norm_0 hl 0 rfl rfl ?_
  refine x_get 4 C dX5_norm_1 X kf_X5_9 0 rfl rfl rfl ?_
  refine x_aload_n 5 C dX5_norm_4 hl 0 rfl rfl ?_
  refine x_get 8 C dX5_norm_5 X kf_X5_9 0 rfl rfl rfl ?_
  refine x_lmul 9 C dX5_norm_8 rfl ?_
  refine x_aload_n 10 C dX5_norm_9 hl 0 rfl rfl ?_
  refine x_get 13 C dX5_norm_10 X kf_X5_9 0 rfl rfl rfl ?_
  refine x_aload_n 14 C dX5_norm_13 hl 0 rfl rfl ?_
  refine x_get 17 C dX5_norm_14 X kf_X5_15 0 rfl rfl rfl ?_
  refine x_lmul 18 C dX5_norm_17 rfl ?_
  refine x_lsub 19 C dX5_norm_18 rfl ?_
  refine x_aload_n 20 C dX5_norm_19 hl 0 rfl rfl ?_
  refine x_get 23 C dX5_norm_20 X kf_X5_15 0 rfl rfl rfl ?_
  refine x_aload_n 24 C dX5_norm_23 hl 0 rfl rfl ?_
  refine x_get 27 C dX5_norm_24 X kf_X5_15 0 rfl rfl rfl ?_
  refine x_lmul 28 C dX5_norm_27 rfl ?_
  refine x_ladd 29 C dX5_norm_28 rfl ?_
  obtain rfl := Option.some.inj hf
  exact R _ _ _ _ X dX5_norm_29
set_option maxHeartbeats 4000000 in
set_option maxRecDepth 100000 in
theorem c_X5_isOfThree (l : Launch) (D : va_G) (T : KT) (h0 : Nat)  (m_a m_b : Int64) (x : Int32) (hf : f_X5_isOfThree m_a m_b = some x) : kx_MI l yX5_isOfThree cX5_isOfThree 1 (some .boolean) 0 0 D T [.ref h0] (w7_X5 T h0 m_a m_b) (w7_X5 T h0 m_a m_b) x := by
  refine kx_ofMZ RX5 rfl (plainFor_of_name (x := yX5_isOfThree) kpn_X5) rfl ?_
  intro E A H ls _ C X R hl
  have hl : lv_has ls 1 [(0, .ref h0)] := hl
  rw [f_X5_isOfThree] at hf
  refine x_aload_n 1 C dX5_isOfThree_0 hl 0 rfl rfl ?_
  refine x_get 4 C dX5_isOfThree_1 X kf_X5_9 0 rfl rfl rfl ?_
  refine x_aload_n 5 C dX5_isOfThree_4 hl 0 rfl rfl ?_
  refine x_get 8 C dX5_isOfThree_5 X kf_X5_15 0 rfl rfl rfl ?_
  refine x_ladd 9 C dX5_isOfThree_8 rfl ?_
  refine x_ldc2_w 12 C dX5_isOfThree_9 (3 : Int64) kc_X5_26 rfl ?_
  refine x_lrem0 13 C dX5_isOfThree_12 kz_l_3 rfl ?_
  refine x_lconst 14 C dX5_isOfThree_13 (0 : Int64) kv_lconst_0 rfl ?_
  refine x_lcmp_ne 22 15 18 C dX5_isOfThree_14 dX5_isOfThree_15 rfl rfl rfl hf (fun hf => ?_) (fun hf => ?_)
  · refine x_iconst 23 C dX5_isOfThree_22 (0 : Int32) kv_iconst_0 rfl ?_
    obtain rfl := Option.some.inj hf
    exact R _ _ _ _ X kb_0 dX5_isOfThree_23
  refine x_iconst 19 C dX5_isOfThree_18 (1 : Int32) kv_iconst_1 rfl ?_
  refine x_goto 23 C dX5_isOfThree_19 rfl ?_
  obtain rfl := Option.some.inj hf
  exact R _ _ _ _ X kb_1 dX5_isOfThree_23
set_option maxHeartbeats 4000000 in
set_option maxRecDepth 100000 in
theorem c_J9_floorMod_f86c9 (l : Launch) (D : va_G) (T : KT)  (v0 v2 : Int64)  (x : Int64) (hf : f_J9_floorMod_f86c9 v0 v2 = some x) : kx_ML l yJ9_floorMod_f86c9 cJ9_floorMod_f86c9 6 (some .long) 0 0 D T [.long v0, .long v2] (w4_ T  ) (w4_ T  ) x := by
  refine kx_ofML RJ9 rfl (by decide +kernel) rfl ?_
  intro E A H ls _ C X R hl
  have hl : lv_has ls 6 [(0, .long v0), (2, .long v2)] := hl
  rw [f_J9_floorMod_f86c9] at hf
  refine x_lload_n 1 C dJ9_floorMod_f86c9_0 hl 0 rfl rfl ?_
  refine x_lload_n 2 C dJ9_floorMod_f86c9_1 hl 1 rfl rfl ?_
  refine x_lrem 3 C dJ9_floorMod_f86c9_2 hf rfl (fun hf => ?_)
  refine x_lstore 5 C dJ9_floorMod_f86c9_3 [(4, .long (v0 - v0 / v2 * v2)), (0, .long v0), (2, .long v2)] hl rfl rfl rfl (fun ls hl => ?_)
  refine x_lload_n 6 C dJ9_floorMod_f86c9_5 hl 1 rfl rfl ?_
  refine x_lload_n 7 C dJ9_floorMod_f86c9_6 hl 2 rfl rfl ?_
  refine x_lxor 8 C dJ9_floorMod_f86c9_7 rfl ?_
  refine x_lconst 9 C dJ9_floorMod_f86c9_8 (0 : Int64) kv_lconst_0 rfl ?_
  refine x_lcmp_ge 25 10 13 C dJ9_floorMod_f86c9_9 dJ9_floorMod_f86c9_10 rfl rfl rfl hf (fun hf => ?_) (fun hf => ?_)
  · refine x_lload 27 C dJ9_floorMod_f86c9_25 hl 0 rfl rfl ?_
    obtain rfl := Option.some.inj hf
    exact R _ _ _ _ X dJ9_floorMod_f86c9_27
  refine x_lload 15 C dJ9_floorMod_f86c9_13 hl 0 rfl rfl ?_
  refine x_lconst 16 C dJ9_floorMod_f86c9_15 (0 : Int64) kv_lconst_0 rfl ?_
  refine x_lcmp_eq 25 17 20 C dJ9_floorMod_f86c9_16 dJ9_floorMod_f86c9_17 rfl rfl rfl hf (fun hf => ?_) (fun hf => ?_)
  · refine x_lload 27 C dJ9_floorMod_f86c9_25 hl 0 rfl rfl ?_
    obtain rfl := Option.some.inj hf
    exact R _ _ _ _ X dJ9_floorMod_f86c9_27
  refine x_lload 22 C dJ9_floorMod_f86c9_20 hl 0 rfl rfl ?_
  refine x_lload_n 23 C dJ9_floorMod_f86c9_22 hl 2 rfl rfl ?_
  refine x_ladd 24 C dJ9_floorMod_f86c9_23 rfl ?_
  obtain rfl := Option.some.inj hf
  exact R _ _ _ _ X dJ9_floorMod_f86c9_24
set_option maxHeartbeats 4000000 in
set_option maxRecDepth 100000 in
theorem c_X5_isPrimary (l : Launch) (D : va_G) (T : KT) (h0 : Nat)  (m_a m_b : Int64) (x : Int32) (hf : f_X5_isPrimary m_a m_b = some x) : kx_MI l yX5_isPrimary cX5_isPrimary 1 (some .boolean) 1 25 D T [.ref h0] (w7_X5 T h0 m_a m_b) (w7_X5 T h0 m_a m_b) x := by
  refine kx_ofMZ RX5 rfl (plainFor_of_name (x := yX5_isPrimary) kpn_X5) rfl ?_
  intro E A H ls _ C X R hl
  have hl : lv_has ls 1 [(0, .ref h0)] := hl
  rw [f_X5_isPrimary] at hf
  refine x_aload_n 1 C dX5_isPrimary_0 hl 0 rfl rfl ?_
  refine x_get 4 C dX5_isPrimary_1 X kf_X5_9 0 rfl rfl rfl ?_
  refine x_ldc2_w 7 C dX5_isPrimary_4 (3 : Int64) kc_X5_26 rfl ?_
  obtain ⟨y7, hy7, hf⟩ := kx_bind hf
  refine x_callSl 10 C dX5_isPrimary_7 X hl kl_X5_28 (c_J9_floorMod_f86c9 E.2.1 D T  m_a (3 : Int64)  y7 hy7) [] rfl rfl rfl rfl rfl cb_15 rfl (fun H locs X => ?_)
  refine x_ldc2_w 13 C dX5_isPrimary_10 (2 : Int64) kc_X5_34 rfl ?_
  refine x_lcmp_ne 34 14 17 C dX5_isPrimary_13 dX5_isPrimary_14 rfl rfl rfl hf (fun hf => ?_) (fun hf => ?_)
  · refine x_iconst 35 C dX5_isPrimary_34 (0 : Int32) kv_iconst_0 rfl ?_
    obtain rfl := Option.some.inj hf
    exact R _ _ _ _ X kb_0 dX5_isPrimary_35
  refine x_aload_n 18 C dX5_isPrimary_17 hl 0 rfl rfl ?_
  refine x_get 21 C dX5_isPrimary_18 X kf_X5_15 0 rfl rfl rfl ?_
  refine x_ldc2_w 24 C dX5_isPrimary_21 (3 : Int64) kc_X5_26 rfl ?_
  refine x_lrem0 25 C dX5_isPrimary_24 kz_l_3 rfl ?_
  refine x_lconst 26 C dX5_isPrimary_25 (0 : Int64) kv_lconst_0 rfl ?_
  refine x_lcmp_ne 34 27 30 C dX5_isPrimary_26 dX5_isPrimary_27 rfl rfl rfl hf (fun hf => ?_) (fun hf => ?_)
  · refine x_iconst 35 C dX5_isPrimary_34 (0 : Int32) kv_iconst_0 rfl ?_
    obtain rfl := Option.some.inj hf
    exact R _ _ _ _ X kb_0 dX5_isPrimary_35
  refine x_iconst 31 C dX5_isPrimary_30 (1 : Int32) kv_iconst_1 rfl ?_
  refine x_goto 35 C dX5_isPrimary_31 rfl ?_
  obtain rfl := Option.some.inj hf
  exact R _ _ _ _ X kb_1 dX5_isPrimary_35
set_option maxHeartbeats 4000000 in
set_option maxRecDepth 100000 in
theorem c_X5_isNought (l : Launch) (D : va_G) (T : KT) (h0 : Nat)  (m_a m_b : Int64) (x : Int32) (hf : f_X5_isNought m_a m_b = some x) : kx_MI l yX5_isNought cX5_isNought 1 (some .boolean) 0 0 D T [.ref h0] (w7_X5 T h0 m_a m_b) (w7_X5 T h0 m_a m_b) x := by
  refine kx_ofMZ RX5 rfl (plainFor_of_name (x := yX5_isNought) kpn_X5) rfl ?_
  intro E A H ls _ C X R hl
  have hl : lv_has ls 1 [(0, .ref h0)] := hl
  rw [f_X5_isNought] at hf
  refine x_aload_n 1 C dX5_isNought_0 hl 0 rfl rfl ?_
  refine x_get 4 C dX5_isNought_1 X kf_X5_9 0 rfl rfl rfl ?_
  refine x_lconst 5 C dX5_isNought_4 (0 : Int64) kv_lconst_0 rfl ?_
  refine x_lcmp_ne 22 6 9 C dX5_isNought_5 dX5_isNought_6 rfl rfl rfl hf (fun hf => ?_) (fun hf => ?_)
  · refine x_iconst 23 C dX5_isNought_22 (0 : Int32) kv_iconst_0 rfl ?_
    obtain rfl := Option.some.inj hf
    exact R _ _ _ _ X kb_0 dX5_isNought_23
  refine x_aload_n 10 C dX5_isNought_9 hl 0 rfl rfl ?_
  refine x_get 13 C dX5_isNought_10 X kf_X5_15 0 rfl rfl rfl ?_
  refine x_lconst 14 C dX5_isNought_13 (0 : Int64) kv_lconst_0 rfl ?_
  refine x_lcmp_ne 22 15 18 C dX5_isNought_14 dX5_isNought_15 rfl rfl rfl hf (fun hf => ?_) (fun hf => ?_)
  · refine x_iconst 23 C dX5_isNought_22 (0 : Int32) kv_iconst_0 rfl ?_
    obtain rfl := Option.some.inj hf
    exact R _ _ _ _ X kb_0 dX5_isNought_23
  refine x_iconst 19 C dX5_isNought_18 (1 : Int32) kv_iconst_1 rfl ?_
  refine x_goto 23 C dX5_isNought_19 rfl ?_
  obtain rfl := Option.some.inj hf
  exact R _ _ _ _ X kb_1 dX5_isNought_23
set_option maxHeartbeats 4000000 in
set_option maxRecDepth 100000 in
theorem c_X5_copy (l : Launch) (D : va_G) (T : KT) (h0 h1 : Nat)  (m_a m_b m_p1_a m_p1_b : Int64) (x : Int64 × Int64) (hf : f_X5_copy m_p1_a m_p1_b = some x) : kx_MV l yX5_copy cX5_copy 2 none 0 0 D T [.ref h0, .ref h1] (w12_X5 T h0 h1 m_a m_b m_p1_a m_p1_b) (w12_X5 T h0 h1 x.1 x.2 m_p1_a m_p1_b) := by
  refine kx_ofMV RX5 rfl (plainFor_of_name (x := yX5_copy) kpn_X5) rfl ?_
  intro E A H ls _ C X R hl
  have hl : lv_has ls 2 [(0, .ref h0), (1, .ref h1)] := hl
  rw [f_X5_copy] at hf
  refine x_aload_n 1 C dX5_copy_0 hl 0 rfl rfl ?_
  refine x_aload_n 2 C dX5_copy_1 hl 1 rfl rfl ?_
  refine x_get 5 C dX5_copy_2 X kf_X5_9 1 rfl rfl rfl ?_
  refine x_put 8 C dX5_copy_5 X kp_X5_9 0 rfl rfl rfl rfl (w12_X5 T h0 h1 m_p1_a m_b m_p1_a m_p1_b) rfl rfl (fun H locs X => ?_)
  refine x_aload_n 9 C dX5_copy_8 hl 0 rfl rfl ?_
  refine x_aload_n 10 C dX5_copy_9 hl 1 rfl rfl ?_
  refine x_get 13 C dX5_copy_10 X kf_X5_15 1 rfl rfl rfl ?_
  refine x_put 16 C dX5_copy_13 X kp_X5_15 0 rfl rfl rfl rfl (w12_X5 T h0 h1 m_p1_a m_p1_b m_p1_a m_p1_b) rfl rfl (fun H locs X => ?_)
  obtain rfl := Option.some.inj hf
  exact R _ _ _ _ X dX5_copy_16
set_option maxHeartbeats 4000000 in
set_option maxRecDepth 100000 in
theorem w_X5_takeOutThrees_2 {E : KE} {A : Nat → Prop} {D : va_G} {T : KT} (h0 : Nat) (C : kx_C E cX5_takeOutThrees 2 (some .int) RX5 1 24 D T) (N : Nat) (x : Int32 × Int64 × Int64)  (R : kx_RI E cX5_takeOutThrees D A (w7_X5 T h0 x.2.1 x.2.2) x.1) : ∀ (k : Nat), ∀ (m_a m_b : Int64) (v1 : Int32) (H : Heap) (locs : List Loc) (ls : Array Slot), kx_H E D A H locs (w7_X5 T h0 m_a m_b) → lv_has ls 2 [(0, .ref h0), (1, .int v1)] → f_X5_takeOutThrees_2 N k v1 m_a m_b = some x → kx_W E H locs 2 ls [] := by
  intro k
  induction k with
  | zero =>
    intro m_a m_b v1 H locs ls X hl hf
    cases (show (none : Option (Int32 × Int64 × Int64)) = some x from hf)
  | succ k ih =>
    intro m_a m_b v1 H locs ls X hl hf
    rw [f_X5_takeOutThrees_2] at hf
    refine x_iload_n 3 C dX5_takeOutThrees_2 hl 1 rfl rfl ?_
    refine x_bipush 5 C dX5_takeOutThrees_3 (60 : Int32) kv_bipush_60 rfl ?_
    refine x_icmp_ge 62 8 C dX5_takeOutThrees_5 rfl rfl hf (fun hf => ?_) (fun hf => ?_)
    · refine x_iload_n 63 C dX5_takeOutThrees_62 hl 1 rfl rfl ?_
      obtain rfl := Option.some.inj hf
      exact R _ _ _ _ X dX5_takeOutThrees_63
    refine x_aload_n 9 C dX5_takeOutThrees_8 hl 0 rfl rfl ?_
    obtain ⟨y9, hy9, hf⟩ := kx_bind hf
    refine x_callVi0 12 C dX5_takeOutThrees_9 X hl kl_X5_58 (c_X5_isOfThree E.2.1 D T h0  m_a m_b y9 hy9) rfl rfl [] rfl rfl rfl rfl rfl rfl (fun H locs X => ?_)
    refine x_if_eq 62 15 C dX5_takeOutThrees_12 rfl rfl hf (fun hf => ?_) (fun hf => ?_)
    · refine x_iload_n 63 C dX5_takeOutThrees_62 hl 1 rfl rfl ?_
      obtain rfl := Option.some.inj hf
      exact R _ _ _ _ X dX5_takeOutThrees_63
    refine x_aload_n 16 C dX5_takeOutThrees_15 hl 0 rfl rfl ?_
    obtain ⟨y16, hy16, hf⟩ := kx_bind hf
    refine x_callVi0 19 C dX5_takeOutThrees_16 X hl kl_X5_40 (c_X5_isNought E.2.1 D T h0  m_a m_b y16 hy16) rfl rfl [] rfl rfl rfl rfl rfl rfl (fun H locs X => ?_)
    refine x_if_ne 62 22 C dX5_takeOutThrees_19 rfl rfl hf (fun hf => ?_) (fun hf => ?_)
    · refine x_iload_n 63 C dX5_takeOutThrees_62 hl 1 rfl rfl ?_
      obtain rfl := Option.some.inj hf
      exact R _ _ _ _ X dX5_takeOutThrees_63
    refine x_aload_n 23 C dX5_takeOutThrees_22 hl 0 rfl rfl ?_
    refine x_ldc2_w 26 C dX5_takeOutThrees_23 (2 : Int64) kc_X5_34 rfl ?_
    refine x_aload_n 27 C dX5_takeOutThrees_26 hl 0 rfl rfl ?_
    refine x_get 30 C dX5_takeOutThrees_27 X kf_X5_9 0 rfl rfl rfl ?_
    refine x_lmul 31 C dX5_takeOutThrees_30 rfl ?_
    refine x_aload_n 32 C dX5_takeOutThrees_31 hl 0 rfl rfl ?_
    refine x_get 35 C dX5_takeOutThrees_32 X kf_X5_15 0 rfl rfl rfl ?_
    refine x_lsub 36 C dX5_takeOutThrees_35 rfl ?_
    refine x_ldc2_w 39 C dX5_takeOutThrees_36 (3 : Int64) kc_X5_26 rfl ?_
    refine x_ldiv0 40 C dX5_takeOutThrees_39 kz_l_3 rfl ?_
    refine x_aload_n 41 C dX5_takeOutThrees_40 hl 0 rfl rfl ?_
    refine x_get 44 C dX5_takeOutThrees_41 X kf_X5_9 0 rfl rfl rfl ?_
    refine x_aload_n 45 C dX5_takeOutThrees_44 hl 0 rfl rfl ?_
    refine x_get 48 C dX5_takeOutThrees_45 X kf_X5_15 0 rfl rfl rfl ?_
    refine x_ladd 49 C dX5_takeOutThrees_48 rfl ?_
    refine x_ldc2_w 52 C dX5_takeOutThrees_49 (3 : Int64) kc_X5_26 rfl ?_
    refine x_ldiv0 53 C dX5_takeOutThrees_52 kz_l_3 rfl ?_
    obtain ⟨y53, hy53, hf⟩ := kx_bind hf
    refine x_callVv0 56 C dX5_takeOutThrees_53 X hl kl_X5_44 (c_X5_set E.2.1 D T h0 ((((2 : Int64) * m_a) - m_b) / (3 : Int64)) ((m_a + m_b) / (3 : Int64)) m_a m_b y53 hy53) rfl rfl [] rfl rfl rfl rfl rfl rfl (fun H locs X => ?_)
    refine x_iinc 59 C dX5_takeOutThrees_56 (1 : Int32) kv_iconst_1 [(1, .int (v1 + (1 : Int32))), (0, .ref h0)] hl 1 rfl rfl rfl rfl (fun ls hl => ?_)
    refine x_goto 2 C dX5_takeOutThrees_59 rfl ?_
    exact ih y53.1 y53.2 (v1 + (1 : Int32)) _ _ _ X (lv_sub hl [1, 0] rfl) hf
set_option maxHeartbeats 4000000 in
set_option maxRecDepth 100000 in
theorem c_X5_takeOutThrees (l : Launch) (D : va_G) (T : KT) (h0 : Nat) (N : Nat)  (m_a m_b : Int64) (x : Int32 × Int64 × Int64) (hf : f_X5_takeOutThrees N m_a m_b = some x) : kx_MI l yX5_takeOutThrees cX5_takeOutThrees 2 (some .int) 1 24 D T [.ref h0] (w7_X5 T h0 m_a m_b) (w7_X5 T h0 x.2.1 x.2.2) x.1 := by
  refine kx_ofMI RX5 rfl (plainFor_of_name (x := yX5_takeOutThrees) kpn_X5) rfl ?_
  intro E A H ls _ C X R hl
  have hl : lv_has ls 2 [(0, .ref h0)] := hl
  rw [f_X5_takeOutThrees] at hf
  refine x_iconst 1 C dX5_takeOutThrees_0 (0 : Int32) kv_iconst_0 rfl ?_
  refine x_istore_n 2 C dX5_takeOutThrees_1 [(1, .int (0 : Int32)), (0, .ref h0)] hl rfl rfl rfl (fun ls hl => ?_)
  exact w_X5_takeOutThrees_2 h0 C N x  R  N m_a m_b (0 : Int32) _ _ _ X (lv_sub hl [1, 0] rfl) hf
set_option maxHeartbeats 4000000 in
set_option maxRecDepth 100000 in
theorem c_J9_abs_067f4 (l : Launch) (D : va_G) (T : KT)  (v0 : Int64)  (x : Int64) (hf : f_J9_abs_067f4 v0 = some x) : kx_ML l yJ9_abs_067f4 cJ9_abs_067f4 2 (some .long) 0 0 D T [.long v0] (w4_ T  ) (w4_ T  ) x := by
  refine kx_ofML RJ9 rfl (by decide +kernel) rfl ?_
  intro E A H ls _ C X R hl
  have hl : lv_has ls 2 [(0, .long v0)] := hl
  rw [f_J9_abs_067f4] at hf
  refine x_lload_n 1 C dJ9_abs_067f4_0 hl 0 rfl rfl ?_
  refine x_lconst 2 C dJ9_abs_067f4_1 (0 : Int64) kv_lconst_0 rfl ?_
  refine x_lcmp_ge 11 3 6 C dJ9_abs_067f4_2 dJ9_abs_067f4_3 rfl rfl rfl hf (fun hf => ?_) (fun hf => ?_)
  · refine x_lload_n 12 C dJ9_abs_067f4_11 hl 0 rfl rfl ?_
    obtain rfl := Option.some.inj hf
    exact R _ _ _ _ X dJ9_abs_067f4_12
  refine x_lload_n 7 C dJ9_abs_067f4_6 hl 0 rfl rfl ?_
  refine x_lneg 8 C dJ9_abs_067f4_7 rfl ?_
  refine x_goto 12 C dJ9_abs_067f4_8 rfl ?_
  obtain rfl := Option.some.inj hf
  exact R _ _ _ _ X dJ9_abs_067f4_12
set_option maxHeartbeats 4000000 in
set_option maxRecDepth 100000 in
theorem w_X9_divisor_15 {E : KE} {A : Nat → Prop} {D : va_G} {T : KT}  (C : kx_C E cX9_divisor 11 (some .long) RX9 1 21 D T) (N : Nat) (x : Int64)  (R : kx_RL E cX9_divisor D A (w4_ T  ) x) : ∀ (k : Nat), ∀  (v4 v6 : Int64) (v8 : Int32) (H : Heap) (locs : List Loc) (ls : Array Slot), kx_H E D A H locs (w4_ T  ) → lv_has ls 11 [(4, .long v4), (6, .long v6), (8, .int v8)] → f_X9_divisor_15 N k v4 v6 v8 = some x → kx_W E H locs 15 ls [] := by
  intro k
  induction k with
  | zero =>
    intro v4 v6 v8 H locs ls X hl hf
    cases (show (none : Option (Int64)) = some x from hf)
  | succ k ih =>
    intro v4 v6 v8 H locs ls X hl hf
    rw [f_X9_divisor_15] at hf
    refine x_iload 17 C dX9_divisor_15 hl 2 rfl rfl ?_
    refine x_bipush 19 C dX9_divisor_17 (100 : Int32) kv_bipush_100 rfl ?_
    refine x_icmp_ge 50 22 C dX9_divisor_19 rfl rfl hf (fun hf => ?_) (fun hf => ?_)
    · refine x_lload 52 C dX9_divisor_50 hl 0 rfl rfl ?_
      obtain rfl := Option.some.inj hf
      exact R _ _ _ _ X dX9_divisor_52
    refine x_lload 24 C dX9_divisor_22 hl 1 rfl rfl ?_
    refine x_lconst 25 C dX9_divisor_24 (0 : Int64) kv_lconst_0 rfl ?_
    refine x_lcmp_eq 50 26 29 C dX9_divisor_25 dX9_divisor_26 rfl rfl rfl hf (fun hf => ?_) (fun hf => ?_)
    · refine x_lload 52 C dX9_divisor_50 hl 0 rfl rfl ?_
      obtain rfl := Option.some.inj hf
      exact R _ _ _ _ X dX9_divisor_52
    refine x_lload 31 C dX9_divisor_29 hl 0 rfl rfl ?_
    refine x_lload 33 C dX9_divisor_31 hl 1 rfl rfl ?_
    refine x_lrem 34 C dX9_divisor_33 hf rfl (fun hf => ?_)
    refine x_lstore 36 C dX9_divisor_34 [(9, .long (v4 - v4 / v6 * v6)), (4, .long v4), (6, .long v6), (8, .int v8)] hl rfl rfl rfl (fun ls hl => ?_)
    refine x_lload 38 C dX9_divisor_36 hl 2 rfl rfl ?_
    refine x_lstore 40 C dX9_divisor_38 [(4, .long v6), (9, .long (v4 - v4 / v6 * v6)), (6, .long v6), (8, .int v8)] hl rfl rfl rfl (fun ls hl => ?_)
    refine x_lload 42 C dX9_divisor_40 hl 1 rfl rfl ?_
    refine x_lstore 44 C dX9_divisor_42 [(6, .long (v4 - v4 / v6 * v6)), (4, .long v6), (9, .long (v4 - v4 / v6 * v6)), (8, .int v8)] hl rfl rfl rfl (fun ls hl => ?_)
    refine x_iinc 47 C dX9_divisor_44 (1 : Int32) kv_iconst_1 [(8, .int (v8 + (1 : Int32))), (6, .long (v4 - v4 / v6 * v6)), (4, .long v6), (9, .long (v4 - v4 / v6 * v6))] hl 3 rfl rfl rfl rfl (fun ls hl => ?_)
    refine x_goto 15 C dX9_divisor_47 rfl ?_
    exact ih v6 (v4 - v4 / v6 * v6) (v8 + (1 : Int32)) _ _ _ X (lv_sub hl [2, 1, 0] rfl) hf
set_option maxHeartbeats 4000000 in
set_option maxRecDepth 100000 in
theorem c_X9_divisor (l : Launch) (D : va_G) (T : KT)  (N : Nat) (v0 v2 : Int64)  (x : Int64) (hf : f_X9_divisor N v0 v2 = some x) : kx_ML l yX9_divisor cX9_divisor 11 (some .long) 1 21 D T [.long v0, .long v2] (w4_ T  ) (w4_ T  ) x := by
  refine kx_ofML RX9 rfl (plainFor_of_name (x := yX9_divisor) kpn_X9) rfl ?_
  intro E A H ls _ C X R hl
  have hl : lv_has ls 11 [(0, .long v0), (2, .long v2)] := hl
  rw [f_X9_divisor] at hf
  refine x_lload_n 1 C dX9_divisor_0 hl 0 rfl rfl ?_
  obtain ⟨y1, hy1, hf⟩ := kx_bind hf
  refine x_callSl0 4 C dX9_divisor_1 X hl kl_X9_7 (c_J9_abs_067f4 E.2.1 D T  v0  y1 hy1) [] rfl rfl rfl rfl rfl rfl (fun H locs X => ?_)
  refine x_lstore 6 C dX9_divisor_4 [(4, .long y1), (0, .long v0), (2, .long v2)] hl rfl rfl rfl (fun ls hl => ?_)
  refine x_lload_n 7 C dX9_divisor_6 hl 2 rfl rfl ?_
  obtain ⟨y7, hy7, hf⟩ := kx_bind hf
  refine x_callSl0 10 C dX9_divisor_7 X hl kl_X9_7 (c_J9_abs_067f4 E.2.1 D T  v2  y7 hy7) [] rfl rfl rfl rfl rfl rfl (fun H locs X => ?_)
  refine x_lstore 12 C dX9_divisor_10 [(6, .long y7), (4, .long y1), (0, .long v0), (2, .long v2)] hl rfl rfl rfl (fun ls hl => ?_)
  refine x_iconst 13 C dX9_divisor_12 (0 : Int32) kv_iconst_0 rfl ?_
  refine x_istore 15 C dX9_divisor_13 [(8, .int (0 : Int32)), (6, .long y7), (4, .long y1), (0, .long v0), (2, .long v2)] hl rfl rfl rfl (fun ls hl => ?_)
  exact w_X9_divisor_15  C N x  R  N y1 y7 (0 : Int32) _ _ _ X (lv_sub hl [2, 1, 0] rfl) hf
set_option maxHeartbeats 4000000 in
set_option maxRecDepth 100000 in
theorem w_X9_rootFrom_32 {E : KE} {A : Nat → Prop} {D : va_G} {T : KT}  (C : kx_C E cX9_rootFrom 4 (some .int) RX9 0 0 D T) (N : Nat) (x : Int32)  (R : kx_RI E cX9_rootFrom D A (w4_ T  ) x) : ∀ (k : Nat), ∀  (v0 v2 v3 : Int32) (H : Heap) (locs : List Loc) (ls : Array Slot), kx_H E D A H locs (w4_ T  ) → lv_has ls 4 [(0, .int v0), (2, .int v2), (3, .int v3)] → f_X9_rootFrom_32 N k v0 v2 v3 = some x → kx_W E H locs 32 ls [] := by
  intro k
  induction k with
  | zero =>
    intro v0 v2 v3 H locs ls X hl hf
    cases (show (none : Option (Int32)) = some x from hf)
  | succ k ih =>
    intro v0 v2 v3 H locs ls X hl hf
    rw [f_X9_rootFrom_32] at hf
    refine x_iload_n 33 C dX9_rootFrom_32 hl 2 rfl rfl ?_
    refine x_ldc 35 C dX9_rootFrom_33 (100000 : Int32) kc_X9_19 rfl ?_
    refine x_icmp_ge 58 38 C dX9_rootFrom_35 rfl rfl hf (fun hf => ?_) (fun hf => ?_)
    · refine x_iload_n 59 C dX9_rootFrom_58 hl 1 rfl rfl ?_
      obtain rfl := Option.some.inj hf
      exact R _ _ _ _ X dX9_rootFrom_59
    refine x_iload_n 39 C dX9_rootFrom_38 hl 1 rfl rfl ?_
    refine x_iconst 40 C dX9_rootFrom_39 (1 : Int32) kv_iconst_1 rfl ?_
    refine x_iadd 41 C dX9_rootFrom_40 rfl ?_
    refine x_iload_n 42 C dX9_rootFrom_41 hl 1 rfl rfl ?_
    refine x_iconst 43 C dX9_rootFrom_42 (1 : Int32) kv_iconst_1 rfl ?_
    refine x_iadd 44 C dX9_rootFrom_43 rfl ?_
    refine x_imul 45 C dX9_rootFrom_44 rfl ?_
    refine x_iload_n 46 C dX9_rootFrom_45 hl 0 rfl rfl ?_
    refine x_icmp_gt 58 49 C dX9_rootFrom_46 rfl rfl hf (fun hf => ?_) (fun hf => ?_)
    · refine x_iload_n 59 C dX9_rootFrom_58 hl 1 rfl rfl ?_
      obtain rfl := Option.some.inj hf
      exact R _ _ _ _ X dX9_rootFrom_59
    refine x_iinc 52 C dX9_rootFrom_49 (1 : Int32) kv_iconst_1 [(2, .int (v2 + (1 : Int32))), (0, .int v0), (3, .int v3)] hl 1 rfl rfl rfl rfl (fun ls hl => ?_)
    refine x_iinc 55 C dX9_rootFrom_52 (1 : Int32) kv_iconst_1 [(3, .int (v3 + (1 : Int32))), (2, .int (v2 + (1 : Int32))), (0, .int v0)] hl 2 rfl rfl rfl rfl (fun ls hl => ?_)
    refine x_goto 32 C dX9_rootFrom_55 rfl ?_
    exact ih v0 (v2 + (1 : Int32)) (v3 + (1 : Int32)) _ _ _ X (lv_sub hl [2, 1, 0] rfl) hf
set_option maxHeartbeats 4000000 in
set_option maxRecDepth 100000 in
theorem w_X9_rootFrom_4 {E : KE} {A : Nat → Prop} {D : va_G} {T : KT}  (C : kx_C E cX9_rootFrom 4 (some .int) RX9 0 0 D T) (N : Nat) (x : Int32)  (R : kx_RI E cX9_rootFrom D A (w4_ T  ) x) : ∀ (k : Nat), ∀  (v0 v2 v3 : Int32) (H : Heap) (locs : List Loc) (ls : Array Slot), kx_H E D A H locs (w4_ T  ) → lv_has ls 4 [(0, .int v0), (2, .int v2), (3, .int v3)] → f_X9_rootFrom_4 N k v0 v2 v3 = some x → kx_W E H locs 4 ls [] := by
  intro k
  induction k with
  | zero =>
    intro v0 v2 v3 H locs ls X hl hf
    cases (show (none : Option (Int32)) = some x from hf)
  | succ k ih =>
    intro v0 v2 v3 H locs ls X hl hf
    rw [f_X9_rootFrom_4] at hf
    refine x_iload_n 5 C dX9_rootFrom_4 hl 2 rfl rfl ?_
    refine x_ldc 7 C dX9_rootFrom_5 (100000 : Int32) kc_X9_19 rfl ?_
    refine x_icmp_ge 30 10 C dX9_rootFrom_7 rfl rfl hf (fun hf => ?_) (fun hf => ?_)
    · refine x_iconst 31 C dX9_rootFrom_30 (0 : Int32) kv_iconst_0 rfl ?_
      refine x_istore_n 32 C dX9_rootFrom_31 [(3, .int (0 : Int32)), (0, .int v0), (2, .int v2)] hl rfl rfl rfl (fun ls hl => ?_)
      exact w_X9_rootFrom_32  C N x  R  N v0 v2 (0 : Int32) _ _ _ X (lv_sub hl [1, 2, 0] rfl) hf
    refine x_iload_n 11 C dX9_rootFrom_10 hl 1 rfl rfl ?_
    refine x_if_le 30 14 C dX9_rootFrom_11 rfl rfl hf (fun hf => ?_) (fun hf => ?_)
    · refine x_iconst 31 C dX9_rootFrom_30 (0 : Int32) kv_iconst_0 rfl ?_
      refine x_istore_n 32 C dX9_rootFrom_31 [(3, .int (0 : Int32)), (0, .int v0), (2, .int v2)] hl rfl rfl rfl (fun ls hl => ?_)
      exact w_X9_rootFrom_32  C N x  R  N v0 v2 (0 : Int32) _ _ _ X (lv_sub hl [1, 2, 0] rfl) hf
    refine x_iload_n 15 C dX9_rootFrom_14 hl 1 rfl rfl ?_
    refine x_iload_n 16 C dX9_rootFrom_15 hl 1 rfl rfl ?_
    refine x_imul 17 C dX9_rootFrom_16 rfl ?_
    refine x_iload_n 18 C dX9_rootFrom_17 hl 0 rfl rfl ?_
    refine x_icmp_le 30 21 C dX9_rootFrom_18 rfl rfl hf (fun hf => ?_) (fun hf => ?_)
    · refine x_iconst 31 C dX9_rootFrom_30 (0 : Int32) kv_iconst_0 rfl ?_
      refine x_istore_n 32 C dX9_rootFrom_31 [(3, .int (0 : Int32)), (0, .int v0), (2, .int v2)] hl rfl rfl rfl (fun ls hl => ?_)
      exact w_X9_rootFrom_32  C N x  R  N v0 v2 (0 : Int32) _ _ _ X (lv_sub hl [1, 2, 0] rfl) hf
    refine x_iinc 24 C dX9_rootFrom_21 (-1 : Int32) kv_iconst_m1 [(2, .int (v2 + (-1 : Int32))), (0, .int v0), (3, .int v3)] hl 1 rfl rfl rfl rfl (fun ls hl => ?_)
    refine x_iinc 27 C dX9_rootFrom_24 (1 : Int32) kv_iconst_1 [(3, .int (v3 + (1 : Int32))), (2, .int (v2 + (-1 : Int32))), (0, .int v0)] hl 2 rfl rfl rfl rfl (fun ls hl => ?_)
    refine x_goto 4 C dX9_rootFrom_27 rfl ?_
    exact ih v0 (v2 + (-1 : Int32)) (v3 + (1 : Int32)) _ _ _ X (lv_sub hl [2, 1, 0] rfl) hf
set_option maxHeartbeats 4000000 in
set_option maxRecDepth 100000 in
theorem c_X9_rootFrom (l : Launch) (D : va_G) (T : KT)  (N : Nat) (v0 v1 : Int32)  (x : Int32) (hf : f_X9_rootFrom N v0 v1 = some x) : kx_MI l yX9_rootFrom cX9_rootFrom 4 (some .int) 0 0 D T [.int v0, .int v1] (w4_ T  ) (w4_ T  ) x := by
  refine kx_ofMI RX9 rfl (plainFor_of_name (x := yX9_rootFrom) kpn_X9) rfl ?_
  intro E A H ls _ C X R hl
  have hl : lv_has ls 4 [(0, .int v0), (1, .int v1)] := hl
  rw [f_X9_rootFrom] at hf
  refine x_iload_n 1 C dX9_rootFrom_0 hl 1 rfl rfl ?_
  refine x_istore_n 2 C dX9_rootFrom_1 [(2, .int v1), (0, .int v0), (1, .int v1)] hl rfl rfl rfl (fun ls hl => ?_)
  refine x_iconst 3 C dX9_rootFrom_2 (0 : Int32) kv_iconst_0 rfl ?_
  refine x_istore_n 4 C dX9_rootFrom_3 [(3, .int (0 : Int32)), (2, .int v1), (0, .int v0), (1, .int v1)] hl rfl rfl rfl (fun ls hl => ?_)
  exact w_X9_rootFrom_4  C N x  R  N v0 v1 (0 : Int32) _ _ _ X (lv_sub hl [2, 1, 0] rfl) hf
set_option maxHeartbeats 4000000 in
set_option maxRecDepth 100000 in
theorem w_X6_splitInto_4 {E : KE} {A : Nat → Prop} {D : va_G} {T : KT} (h0 : Nat) (C : kx_C E cX6_splitInto 5 none RX6 2 45 D T) (N : Nat) (x : Int64 × Int64)  (R : kx_RV E cX6_splitInto D A (w14_ T h0 x.1 x.2)) : ∀ (k : Nat), ∀ (m_p1_a m_p1_b : Int64) (v0 v2 v3 : Int32) (H : Heap) (locs : List Loc) (ls : Array Slot), kx_H E D A H locs (w14_ T h0 m_p1_a m_p1_b) → lv_has ls 5 [(0, .int v0), (1, .ref h0), (2, .int v2), (3, .int v3)] → f_X6_splitInto_4 N k v0 v2 v3 m_p1_a m_p1_b = some x → kx_W E H locs 4 ls [] := by
  intro k
  induction k with
  | zero =>
    intro m_p1_a m_p1_b v0 v2 v3 H locs ls X hl hf
    cases (show (none : Option (Int64 × Int64)) = some x from hf)
  | succ k ih =>
    intro m_p1_a m_p1_b v0 v2 v3 H locs ls X hl hf
    rw [f_X6_splitInto_4] at hf
    refine x_iload_n 5 C dX6_splitInto_4 hl 3 rfl rfl ?_
    refine x_sipush 8 C dX6_splitInto_5 (200 : Int32) kv_sipush_200 rfl ?_
    refine x_icmp_ge 86 11 C dX6_splitInto_8 rfl rfl hf (fun hf => ?_) (fun hf => ?_)
    · obtain rfl := Option.some.inj hf
      exact R _ _ _ _ X dX6_splitInto_86
    refine x_iconst 12 C dX6_splitInto_11 (3 : Int32) kv_iconst_3 rfl ?_
    refine x_iload_n 13 C dX6_splitInto_12 hl 3 rfl rfl ?_
    refine x_imul 14 C dX6_splitInto_13 rfl ?_
    refine x_iload_n 15 C dX6_splitInto_14 hl 3 rfl rfl ?_
    refine x_imul 16 C dX6_splitInto_15 rfl ?_
    refine x_iconst 17 C dX6_splitInto_16 (4 : Int32) kv_iconst_4 rfl ?_
    refine x_iload_n 18 C dX6_splitInto_17 hl 0 rfl rfl ?_
    refine x_imul 19 C dX6_splitInto_18 rfl ?_
    refine x_icmp_gt 86 22 C dX6_splitInto_19 rfl rfl hf (fun hf => ?_) (fun hf => ?_)
    · obtain rfl := Option.some.inj hf
      exact R _ _ _ _ X dX6_splitInto_86
    refine x_iconst 23 C dX6_splitInto_22 (4 : Int32) kv_iconst_4 rfl ?_
    refine x_iload_n 24 C dX6_splitInto_23 hl 0 rfl rfl ?_
    refine x_imul 25 C dX6_splitInto_24 rfl ?_
    refine x_iconst 26 C dX6_splitInto_25 (3 : Int32) kv_iconst_3 rfl ?_
    refine x_iload_n 27 C dX6_splitInto_26 hl 3 rfl rfl ?_
    refine x_imul 28 C dX6_splitInto_27 rfl ?_
    refine x_iload_n 29 C dX6_splitInto_28 hl 3 rfl rfl ?_
    refine x_imul 30 C dX6_splitInto_29 rfl ?_
    refine x_isub 31 C dX6_splitInto_30 rfl ?_
    refine x_istore 33 C dX6_splitInto_31 [(4, .int (((4 : Int32) * v0) - (((3 : Int32) * v3) * v3))), (0, .int v0), (1, .ref h0), (2, .int v2), (3, .int v3)] hl rfl rfl rfl (fun ls hl => ?_)
    refine x_iload 35 C dX6_splitInto_33 hl 0 rfl rfl ?_
    refine x_iload_n 36 C dX6_splitInto_35 hl 3 rfl rfl ?_
    obtain ⟨y36, hy36, hf⟩ := kx_bind hf
    refine x_callSi 39 C dX6_splitInto_36 X hl kl_X6_31 (c_X9_rootFrom E.2.1 D T  N (((4 : Int32) * v0) - (((3 : Int32) * v3) * v3)) v2  y36 hy36) [] rfl rfl rfl rfl rfl cb_26 rfl (fun H locs X => ?_)
    refine x_istore_n 40 C dX6_splitInto_39 [(2, .int y36), (4, .int (((4 : Int32) * v0) - (((3 : Int32) * v3) * v3))), (0, .int v0), (1, .ref h0), (3, .int v3)] hl rfl rfl rfl (fun ls hl => ?_)
    refine x_iload_n 41 C dX6_splitInto_40 hl 0 rfl rfl ?_
    refine x_iload_n 42 C dX6_splitInto_41 hl 0 rfl rfl ?_
    refine x_imul 43 C dX6_splitInto_42 rfl ?_
    refine x_iload 45 C dX6_splitInto_43 hl 1 rfl rfl ?_
    refine x_icmp_ne 80 48 C dX6_splitInto_45 rfl rfl hf (fun hf => ?_) (fun hf => ?_)
    · refine x_iinc 83 C dX6_splitInto_80 (3 : Int32) kv_iconst_3 [(3, .int (v3 + (3 : Int32))), (2, .int y36), (4, .int (((4 : Int32) * v0) - (((3 : Int32) * v3) * v3))), (0, .int v0), (1, .ref h0)] hl 4 rfl rfl rfl rfl (fun ls hl => ?_)
      refine x_goto 4 C dX6_splitInto_83 rfl ?_
      exact ih m_p1_a m_p1_b v0 y36 (v3 + (3 : Int32)) _ _ _ X (lv_sub hl [3, 4, 1, 0] rfl) hf
    refine x_aload_n 49 C dX6_splitInto_48 hl 3 rfl rfl ?_
    refine x_iload_n 50 C dX6_splitInto_49 hl 4 rfl rfl ?_
    refine x_iload_n 51 C dX6_splitInto_50 hl 0 rfl rfl ?_
    refine x_iadd 52 C dX6_splitInto_51 rfl ?_
    refine x_iconst 53 C dX6_splitInto_52 (2 : Int32) kv_iconst_2 rfl ?_
    refine x_idiv0 54 C dX6_splitInto_53 kz_i_2 rfl ?_
    refine x_i2l 55 C dX6_splitInto_54 rfl ?_
    refine x_iload_n 56 C dX6_splitInto_55 hl 4 rfl rfl ?_
    refine x_i2l 57 C dX6_splitInto_56 rfl ?_
    obtain ⟨y57, hy57, hf⟩ := kx_bind hf
    refine x_callVv 60 C dX6_splitInto_57 X hl kl_X6_35 (c_X5_set E.2.1 D T h0 (((v3 + y36) / (2 : Int32))).toInt64 (v3).toInt64 m_p1_a m_p1_b y57 hy57) rfl rfl [] rfl rfl rfl rfl rfl cb_27 rfl (fun H locs X => ?_)
    refine x_aload_n 61 C dX6_splitInto_60 hl 3 rfl rfl ?_
    obtain ⟨y61, hy61, hf⟩ := kx_bind hf
    refine x_callVi 64 C dX6_splitInto_61 X hl kl_X6_39 (c_X5_isPrimary E.2.1 D T h0  y57.1 y57.2 y61 hy61) rfl rfl [] rfl rfl rfl rfl rfl cb_27 rfl (fun H locs X => ?_)
    refine x_if_ne 79 67 C dX6_splitInto_64 rfl rfl hf (fun hf => ?_) (fun hf => ?_)
    · obtain rfl := Option.some.inj hf
      exact R _ _ _ _ X dX6_splitInto_79
    refine x_aload_n 68 C dX6_splitInto_67 hl 3 rfl rfl ?_
    refine x_iload_n 69 C dX6_splitInto_68 hl 4 rfl rfl ?_
    refine x_iload_n 70 C dX6_splitInto_69 hl 0 rfl rfl ?_
    refine x_isub 71 C dX6_splitInto_70 rfl ?_
    refine x_iconst 72 C dX6_splitInto_71 (2 : Int32) kv_iconst_2 rfl ?_
    refine x_idiv0 73 C dX6_splitInto_72 kz_i_2 rfl ?_
    refine x_i2l 74 C dX6_splitInto_73 rfl ?_
    refine x_iload_n 75 C dX6_splitInto_74 hl 4 rfl rfl ?_
    refine x_i2l 76 C dX6_splitInto_75 rfl ?_
    obtain ⟨y76, hy76, hf⟩ := kx_bind hf
    refine x_callVv 79 C dX6_splitInto_76 X hl kl_X6_35 (c_X5_set E.2.1 D T h0 (((v3 - y36) / (2 : Int32))).toInt64 (v3).toInt64 y57.1 y57.2 y76 hy76) rfl rfl [] rfl rfl rfl rfl rfl cb_27 rfl (fun H locs X => ?_)
    obtain rfl := Option.some.inj hf
    exact R _ _ _ _ X dX6_splitInto_79
set_option maxHeartbeats 4000000 in
set_option maxRecDepth 100000 in
theorem c_X6_splitInto (l : Launch) (D : va_G) (T : KT) (h0 : Nat) (N : Nat) (v0 : Int32) (m_p1_a m_p1_b : Int64) (x : Int64 × Int64) (hf : f_X6_splitInto N v0 m_p1_a m_p1_b = some x) : kx_MV l yX6_splitInto cX6_splitInto 5 none 2 45 D T [.int v0, .ref h0] (w14_ T h0 m_p1_a m_p1_b) (w14_ T h0 x.1 x.2) := by
  refine kx_ofMV RX6 rfl (plainFor_of_name (x := yX6_splitInto) kpn_X6) rfl ?_
  intro E A H ls _ C X R hl
  have hl : lv_has ls 5 [(0, .int v0), (1, .ref h0)] := hl
  rw [f_X6_splitInto] at hf
  refine x_iconst 1 C dX6_splitInto_0 (0 : Int32) kv_iconst_0 rfl ?_
  refine x_istore_n 2 C dX6_splitInto_1 [(2, .int (0 : Int32)), (0, .int v0), (1, .ref h0)] hl rfl rfl rfl (fun ls hl => ?_)
  refine x_iconst 3 C dX6_splitInto_2 (3 : Int32) kv_iconst_3 rfl ?_
  refine x_istore_n 4 C dX6_splitInto_3 [(3, .int (3 : Int32)), (2, .int (0 : Int32)), (0, .int v0), (1, .ref h0)] hl rfl rfl rfl (fun ls hl => ?_)
  exact w_X6_splitInto_4 h0 C N x  R  N m_p1_a m_p1_b v0 (0 : Int32) (3 : Int32) _ _ _ X (lv_sub hl [2, 3, 1, 0] rfl) hf
set_option maxHeartbeats 4000000 in
set_option maxRecDepth 100000 in
theorem c_X2_isBehind (l : Launch) (D : va_G) (T : KT) (h0 h1 h2 h3 h4 h5 h6 h7 : Nat) (v1 : Int32) (v2 : Int64) (m_count m_threes m_unit : Int32) (m_primeB m_norms : Nat → Int64) (m_found_a m_found_b : Int64) (x : Int32) (hf : f_X2_isBehind v1 v2 m_primeB m_norms m_found_b = some x) : kx_MI l yX2_isBehind cX2_isBehind 4 (some .boolean) 0 0 D T [.ref h0, .int v1, .long v2] (w23_X2 T h0 h1 h2 h3 h4 h5 h6 h7 m_count m_threes m_unit m_primeB m_norms m_found_a m_found_b) (w23_X2 T h0 h1 h2 h3 h4 h5 h6 h7 m_count m_threes m_unit m_primeB m_norms m_found_a m_found_b) x := by
  refine kx_ofMZ RX2 rfl (plainFor_of_name (x := yX2_isBehind) kpn_X2) rfl ?_
  intro E A H ls _ C X R hl
  have hl : lv_has ls 4 [(0, .ref h0), (1, .int v1), (2, .long v2)] := hl
  rw [f_X2_isBehind] at hf
  refine x_iload_n 1 C dX2_isBehind_0 hl 1 rfl rfl ?_
  refine x_if_lt 10 4 C dX2_isBehind_1 rfl rfl hf (fun hf => ?_) (fun hf => ?_)
  · refine x_iconst 11 C dX2_isBehind_10 (0 : Int32) kv_iconst_0 rfl ?_
    obtain rfl := Option.some.inj hf
    exact R _ _ _ _ X kb_0 dX2_isBehind_11
  refine x_iload_n 5 C dX2_isBehind_4 hl 1 rfl rfl ?_
  refine x_bipush 7 C dX2_isBehind_5 (32 : Int32) kv_bipush_32 rfl ?_
  refine x_icmp_lt 12 10 C dX2_isBehind_7 rfl rfl hf (fun hf => ?_) (fun hf => ?_)
  · refine x_aload_n 13 C dX2_isBehind_12 hl 0 rfl rfl ?_
    refine x_get 16 C dX2_isBehind_13 X kf_X2_16 0 rfl rfl rfl ?_
    refine x_iload_n 17 C dX2_isBehind_16 hl 1 rfl rfl ?_
    refine x_lald 18 C dX2_isBehind_17 X 2 rfl hf rfl (fun hf => ?_)
    refine x_lload_n 19 C dX2_isBehind_18 hl 2 rfl rfl ?_
    refine x_lcmp_gt 51 20 23 C dX2_isBehind_19 dX2_isBehind_20 rfl rfl rfl hf (fun hf => ?_) (fun hf => ?_)
    · refine x_iconst 52 C dX2_isBehind_51 (1 : Int32) kv_iconst_1 rfl ?_
      refine x_goto 56 C dX2_isBehind_52 rfl ?_
      obtain rfl := Option.some.inj hf
      exact R _ _ _ _ X kb_1 dX2_isBehind_56
    refine x_aload_n 24 C dX2_isBehind_23 hl 0 rfl rfl ?_
    refine x_get 27 C dX2_isBehind_24 X kf_X2_16 0 rfl rfl rfl ?_
    refine x_iload_n 28 C dX2_isBehind_27 hl 1 rfl rfl ?_
    refine x_lald 29 C dX2_isBehind_28 X 2 rfl hf rfl (fun hf => ?_)
    refine x_lload_n 30 C dX2_isBehind_29 hl 2 rfl rfl ?_
    refine x_lcmp_ne 55 31 34 C dX2_isBehind_30 dX2_isBehind_31 rfl rfl rfl hf (fun hf => ?_) (fun hf => ?_)
    · refine x_iconst 56 C dX2_isBehind_55 (0 : Int32) kv_iconst_0 rfl ?_
      obtain rfl := Option.some.inj hf
      exact R _ _ _ _ X kb_0 dX2_isBehind_56
    refine x_aload_n 35 C dX2_isBehind_34 hl 0 rfl rfl ?_
    refine x_get 38 C dX2_isBehind_35 X kf_X2_13 0 rfl rfl rfl ?_
    refine x_iload_n 39 C dX2_isBehind_38 hl 1 rfl rfl ?_
    refine x_lald 40 C dX2_isBehind_39 X 1 rfl hf rfl (fun hf => ?_)
    refine x_aload_n 41 C dX2_isBehind_40 hl 0 rfl rfl ?_
    refine x_get 44 C dX2_isBehind_41 X kf_X2_33 0 rfl rfl rfl ?_
    refine x_get 47 C dX2_isBehind_44 X kf_X2_61 3 rfl rfl rfl ?_
    refine x_lcmp_le 55 48 51 C dX2_isBehind_47 dX2_isBehind_48 rfl rfl rfl hf (fun hf => ?_) (fun hf => ?_)
    · refine x_iconst 56 C dX2_isBehind_55 (0 : Int32) kv_iconst_0 rfl ?_
      obtain rfl := Option.some.inj hf
      exact R _ _ _ _ X kb_0 dX2_isBehind_56
    refine x_iconst 52 C dX2_isBehind_51 (1 : Int32) kv_iconst_1 rfl ?_
    refine x_goto 56 C dX2_isBehind_52 rfl ?_
    obtain rfl := Option.some.inj hf
    exact R _ _ _ _ X kb_1 dX2_isBehind_56
  refine x_iconst 11 C dX2_isBehind_10 (0 : Int32) kv_iconst_0 rfl ?_
  obtain rfl := Option.some.inj hf
  exact R _ _ _ _ X kb_0 dX2_isBehind_11
set_option maxHeartbeats 4000000 in
set_option maxRecDepth 100000 in
theorem w_X2_insert_93 {E : KE} {A : Nat → Prop} {D : va_G} {T : KT} (h0 h1 h2 h3 h4 h5 h6 h7 : Nat) (C : kx_C E cX2_insert 4 none RX2 1 23 D T) (N : Nat) (x : Int32 × (Nat → Int64) × (Nat → Int64) × (Nat → Int64)) (m_threes m_unit : Int32) (m_found_a m_found_b : Int64) (R : kx_RV E cX2_insert D A (w20_X2 T h0 h1 h2 h3 h4 h5 h6 h7 x.1 m_threes m_unit x.2.1 x.2.2.1 x.2.2.2 m_found_a m_found_b)) : ∀ (m_count : Int32) (m_primeA m_primeB m_norms : Nat → Int64) (v1 : Int64) (v3 : Int32) (H : Heap) (locs : List Loc) (ls : Array Slot), kx_H E D A H locs (w20_X2 T h0 h1 h2 h3 h4 h5 h6 h7 m_count m_threes m_unit m_primeA m_primeB m_norms m_found_a m_found_b) → lv_has ls 4 [(0, .ref h0), (1, .long v1), (3, .int v3)] → f_X2_insert_93 N v1 v3 m_count m_primeA m_primeB m_norms m_found_a m_found_b = some x → kx_W E H locs 93 ls [] := by
  intro m_count m_primeA m_primeB m_norms v1 v3 H locs ls X hl hf
  rw [f_X2_insert_93] at hf
  refine x_aload_n 94 C dX2_insert_93 hl 0 rfl rfl ?_
  refine x_get 97 C dX2_insert_94 X kf_X2_9 0 rfl rfl rfl ?_
  refine x_iload_n 98 C dX2_insert_97 hl 2 rfl rfl ?_
  refine x_aload_n 99 C dX2_insert_98 hl 0 rfl rfl ?_
  refine x_get 102 C dX2_insert_99 X kf_X2_33 0 rfl rfl rfl ?_
  refine x_get 105 C dX2_insert_102 X kf_X2_57 4 rfl rfl rfl ?_
  refine x_last 106 C dX2_insert_105 X 1 rfl (w20_X2 T h0 h1 h2 h3 h4 h5 h6 h7 m_count m_threes m_unit (vp_updL m_primeA (v3).toNatClampNeg m_found_a) m_primeB m_norms m_found_a m_found_b) rfl hf rfl (fun H locs X hf => ?_)
  refine x_aload_n 107 C dX2_insert_106 hl 0 rfl rfl ?_
  refine x_get 110 C dX2_insert_107 X kf_X2_13 0 rfl rfl rfl ?_
  refine x_iload_n 111 C dX2_insert_110 hl 2 rfl rfl ?_
  refine x_aload_n 112 C dX2_insert_111 hl 0 rfl rfl ?_
  refine x_get 115 C dX2_insert_112 X kf_X2_33 0 rfl rfl rfl ?_
  refine x_get 118 C dX2_insert_115 X kf_X2_61 4 rfl rfl rfl ?_
  refine x_last 119 C dX2_insert_118 X 2 rfl (w20_X2 T h0 h1 h2 h3 h4 h5 h6 h7 m_count m_threes m_unit (vp_updL m_primeA (v3).toNatClampNeg m_found_a) (vp_updL m_primeB (v3).toNatClampNeg m_found_b) m_norms m_found_a m_found_b) rfl hf rfl (fun H locs X hf => ?_)
  refine x_aload_n 120 C dX2_insert_119 hl 0 rfl rfl ?_
  refine x_get 123 C dX2_insert_120 X kf_X2_16 0 rfl rfl rfl ?_
  refine x_iload_n 124 C dX2_insert_123 hl 2 rfl rfl ?_
  refine x_lload_n 125 C dX2_insert_124 hl 1 rfl rfl ?_
  refine x_last 126 C dX2_insert_125 X 3 rfl (w20_X2 T h0 h1 h2 h3 h4 h5 h6 h7 m_count m_threes m_unit (vp_updL m_primeA (v3).toNatClampNeg m_found_a) (vp_updL m_primeB (v3).toNatClampNeg m_found_b) (vp_updL m_norms (v3).toNatClampNeg v1) m_found_a m_found_b) rfl hf rfl (fun H locs X hf => ?_)
  refine x_aload_n 127 C dX2_insert_126 hl 0 rfl rfl ?_
  refine x_dup 128 C dX2_insert_127 rfl rfl ?_
  refine x_get 131 C dX2_insert_128 X kf_X2_39 0 rfl rfl rfl ?_
  refine x_iconst 132 C dX2_insert_131 (1 : Int32) kv_iconst_1 rfl ?_
  refine x_iadd 133 C dX2_insert_132 rfl ?_
  refine x_put 136 C dX2_insert_133 X kp_X2_39 0 rfl rfl rfl rfl (w20_X2 T h0 h1 h2 h3 h4 h5 h6 h7 (m_count + (1 : Int32)) m_threes m_unit (vp_updL m_primeA (v3).toNatClampNeg m_found_a) (vp_updL m_primeB (v3).toNatClampNeg m_found_b) (vp_updL m_norms (v3).toNatClampNeg v1) m_found_a m_found_b) rfl rfl (fun H locs X => ?_)
  obtain rfl := Option.some.inj hf
  exact R _ _ _ _ X dX2_insert_136
set_option maxHeartbeats 4000000 in
set_option maxRecDepth 100000 in
theorem w_X2_insert_30 {E : KE} {A : Nat → Prop} {D : va_G} {T : KT} (h0 h1 h2 h3 h4 h5 h6 h7 : Nat) (C : kx_C E cX2_insert 4 none RX2 1 23 D T) (N : Nat) (x : Int32 × (Nat → Int64) × (Nat → Int64) × (Nat → Int64)) (m_threes m_unit : Int32) (m_found_a m_found_b : Int64) (R : kx_RV E cX2_insert D A (w20_X2 T h0 h1 h2 h3 h4 h5 h6 h7 x.1 m_threes m_unit x.2.1 x.2.2.1 x.2.2.2 m_found_a m_found_b)) : ∀ (k : Nat), ∀ (m_count : Int32) (m_primeA m_primeB m_norms : Nat → Int64) (v1 : Int64) (v3 : Int32) (H : Heap) (locs : List Loc) (ls : Array Slot), kx_H E D A H locs (w20_X2 T h0 h1 h2 h3 h4 h5 h6 h7 m_count m_threes m_unit m_primeA m_primeB m_norms m_found_a m_found_b) → lv_has ls 4 [(0, .ref h0), (1, .long v1), (3, .int v3)] → f_X2_insert_30 N k v1 v3 m_count m_primeA m_primeB m_norms m_found_a m_found_b = some x → kx_W E H locs 30 ls [] := by
  intro k
  induction k with
  | zero =>
    intro m_count m_primeA m_primeB m_norms v1 v3 H locs ls X hl hf
    cases (show (none : Option (Int32 × (Nat → Int64) × (Nat → Int64) × (Nat → Int64))) = some x from hf)
  | succ k ih =>
    intro m_count m_primeA m_primeB m_norms v1 v3 H locs ls X hl hf
    rw [f_X2_insert_30] at hf
    refine x_iload_n 31 C dX2_insert_30 hl 2 rfl rfl ?_
    refine x_if_le 93 34 C dX2_insert_31 rfl rfl hf (fun hf => ?_) (fun hf => ?_)
    · exact w_X2_insert_93 h0 h1 h2 h3 h4 h5 h6 h7 C N x m_threes m_unit m_found_a m_found_b R  m_count m_primeA m_primeB m_norms v1 v3 _ _ _ X (lv_sub hl [0, 1, 2] rfl) hf
    refine x_aload_n 35 C dX2_insert_34 hl 0 rfl rfl ?_
    refine x_iload_n 36 C dX2_insert_35 hl 2 rfl rfl ?_
    refine x_iconst 37 C dX2_insert_36 (1 : Int32) kv_iconst_1 rfl ?_
    refine x_isub 38 C dX2_insert_37 rfl ?_
    refine x_lload_n 39 C dX2_insert_38 hl 1 rfl rfl ?_
    obtain ⟨y39, hy39, hf⟩ := kx_bind hf
    refine x_callVi 42 C dX2_insert_39 X hl kl_X2_128 (c_X2_isBehind E.2.1 D T h0 h1 h2 h3 h4 h5 h6 h7 (v3 - (1 : Int32)) v1 m_count m_threes m_unit m_primeB m_norms m_found_a m_found_b y39 hy39) rfl rfl [] rfl rfl rfl rfl rfl cb_28 rfl (fun H locs X => ?_)
    refine x_if_eq 93 45 C dX2_insert_42 rfl rfl hf (fun hf => ?_) (fun hf => ?_)
    · exact w_X2_insert_93 h0 h1 h2 h3 h4 h5 h6 h7 C N x m_threes m_unit m_found_a m_found_b R  m_count m_primeA m_primeB m_norms v1 v3 _ _ _ X (lv_sub hl [0, 1, 2] rfl) hf
    refine x_aload_n 46 C dX2_insert_45 hl 0 rfl rfl ?_
    refine x_get 49 C dX2_insert_46 X kf_X2_9 0 rfl rfl rfl ?_
    refine x_iload_n 50 C dX2_insert_49 hl 2 rfl rfl ?_
    refine x_aload_n 51 C dX2_insert_50 hl 0 rfl rfl ?_
    refine x_get 54 C dX2_insert_51 X kf_X2_9 0 rfl rfl rfl ?_
    refine x_iload_n 55 C dX2_insert_54 hl 2 rfl rfl ?_
    refine x_iconst 56 C dX2_insert_55 (1 : Int32) kv_iconst_1 rfl ?_
    refine x_isub 57 C dX2_insert_56 rfl ?_
    refine x_lald 58 C dX2_insert_57 X 1 rfl hf rfl (fun hf => ?_)
    refine x_last 59 C dX2_insert_58 X 1 rfl (w20_X2 T h0 h1 h2 h3 h4 h5 h6 h7 m_count m_threes m_unit (vp_updL m_primeA (v3).toNatClampNeg (m_primeA ((v3 - (1 : Int32))).toNatClampNeg)) m_primeB m_norms m_found_a m_found_b) rfl hf rfl (fun H locs X hf => ?_)
    refine x_aload_n 60 C dX2_insert_59 hl 0 rfl rfl ?_
    refine x_get 63 C dX2_insert_60 X kf_X2_13 0 rfl rfl rfl ?_
    refine x_iload_n 64 C dX2_insert_63 hl 2 rfl rfl ?_
    refine x_aload_n 65 C dX2_insert_64 hl 0 rfl rfl ?_
    refine x_get 68 C dX2_insert_65 X kf_X2_13 0 rfl rfl rfl ?_
    refine x_iload_n 69 C dX2_insert_68 hl 2 rfl rfl ?_
    refine x_iconst 70 C dX2_insert_69 (1 : Int32) kv_iconst_1 rfl ?_
    refine x_isub 71 C dX2_insert_70 rfl ?_
    refine x_lald 72 C dX2_insert_71 X 2 rfl hf rfl (fun hf => ?_)
    refine x_last 73 C dX2_insert_72 X 2 rfl (w20_X2 T h0 h1 h2 h3 h4 h5 h6 h7 m_count m_threes m_unit (vp_updL m_primeA (v3).toNatClampNeg (m_primeA ((v3 - (1 : Int32))).toNatClampNeg)) (vp_updL m_primeB (v3).toNatClampNeg (m_primeB ((v3 - (1 : Int32))).toNatClampNeg)) m_norms m_found_a m_found_b) rfl hf rfl (fun H locs X hf => ?_)
    refine x_aload_n 74 C dX2_insert_73 hl 0 rfl rfl ?_
    refine x_get 77 C dX2_insert_74 X kf_X2_16 0 rfl rfl rfl ?_
    refine x_iload_n 78 C dX2_insert_77 hl 2 rfl rfl ?_
    refine x_aload_n 79 C dX2_insert_78 hl 0 rfl rfl ?_
    refine x_get 82 C dX2_insert_79 X kf_X2_16 0 rfl rfl rfl ?_
    refine x_iload_n 83 C dX2_insert_82 hl 2 rfl rfl ?_
    refine x_iconst 84 C dX2_insert_83 (1 : Int32) kv_iconst_1 rfl ?_
    refine x_isub 85 C dX2_insert_84 rfl ?_
    refine x_lald 86 C dX2_insert_85 X 3 rfl hf rfl (fun hf => ?_)
    refine x_last 87 C dX2_insert_86 X 3 rfl (w20_X2 T h0 h1 h2 h3 h4 h5 h6 h7 m_count m_threes m_unit (vp_updL m_primeA (v3).toNatClampNeg (m_primeA ((v3 - (1 : Int32))).toNatClampNeg)) (vp_updL m_primeB (v3).toNatClampNeg (m_primeB ((v3 - (1 : Int32))).toNatClampNeg)) (vp_updL m_norms (v3).toNatClampNeg (m_norms ((v3 - (1 : Int32))).toNatClampNeg)) m_found_a m_found_b) rfl hf rfl (fun H locs X hf => ?_)
    refine x_iinc 90 C dX2_insert_87 (-1 : Int32) kv_iconst_m1 [(3, .int (v3 + (-1 : Int32))), (0, .ref h0), (1, .long v1)] hl 2 rfl rfl rfl rfl (fun ls hl => ?_)
    refine x_goto 30 C dX2_insert_90 rfl ?_
    exact ih m_count (vp_updL m_primeA (v3).toNatClampNeg (m_primeA ((v3 - (1 : Int32))).toNatClampNeg)) (vp_updL m_primeB (v3).toNatClampNeg (m_primeB ((v3 - (1 : Int32))).toNatClampNeg)) (vp_updL m_norms (v3).toNatClampNeg (m_norms ((v3 - (1 : Int32))).toNatClampNeg)) v1 (v3 + (-1 : Int32)) _ _ _ X (lv_sub hl [1, 2, 0] rfl) hf
set_option maxHeartbeats 4000000 in
set_option maxRecDepth 100000 in
theorem c_X2_insert (l : Launch) (D : va_G) (T : KT) (h0 h1 h2 h3 h4 h5 h6 h7 : Nat) (N : Nat)  (m_count m_threes m_unit : Int32) (m_primeA m_primeB m_norms : Nat → Int64) (m_found_a m_found_b : Int64) (x : Int32 × (Nat → Int64) × (Nat → Int64) × (Nat → Int64)) (hf : f_X2_insert N m_count m_primeA m_primeB m_norms m_found_a m_found_b = some x) : kx_MV l yX2_insert cX2_insert 4 none 1 23 D T [.ref h0] (w20_X2 T h0 h1 h2 h3 h4 h5 h6 h7 m_count m_threes m_unit m_primeA m_primeB m_norms m_found_a m_found_b) (w20_X2 T h0 h1 h2 h3 h4 h5 h6 h7 x.1 m_threes m_unit x.2.1 x.2.2.1 x.2.2.2 m_found_a m_found_b) := by
  refine kx_ofMV RX2 rfl (plainFor_of_name (x := yX2_insert) kpn_X2) rfl ?_
  intro E A H ls _ C X R hl
  have hl : lv_has ls 4 [(0, .ref h0)] := hl
  rw [f_X2_insert] at hf
  refine x_aload_n 1 C dX2_insert_0 hl 0 rfl rfl ?_
  refine x_get 4 C dX2_insert_1 X kf_X2_39 0 rfl rfl rfl ?_
  refine x_if_lt 16 7 C dX2_insert_4 rfl rfl hf (fun hf => ?_) (fun hf => ?_)
  · obtain rfl := Option.some.inj hf
    exact R _ _ _ _ X dX2_insert_16
  refine x_aload_n 8 C dX2_insert_7 hl 0 rfl rfl ?_
  refine x_get 11 C dX2_insert_8 X kf_X2_39 0 rfl rfl rfl ?_
  refine x_bipush 13 C dX2_insert_11 (32 : Int32) kv_bipush_32 rfl ?_
  refine x_icmp_lt 17 16 C dX2_insert_13 rfl rfl hf (fun hf => ?_) (fun hf => ?_)
  · refine x_aload_n 18 C dX2_insert_17 hl 0 rfl rfl ?_
    refine x_get 21 C dX2_insert_18 X kf_X2_33 0 rfl rfl rfl ?_
    obtain ⟨y21, hy21, hf⟩ := kx_bind hf
    refine x_callVl 24 C dX2_insert_21 X hl kl_X2_105 (c_X5_norm E.2.1 D T h6  m_found_a m_found_b y21 hy21) rfl rfl [] rfl rfl rfl rfl rfl cb_25 rfl (fun H locs X => ?_)
    refine x_lstore_n 25 C dX2_insert_24 [(1, .long y21), (0, .ref h0)] hl rfl rfl rfl (fun ls hl => ?_)
    refine x_aload_n 26 C dX2_insert_25 hl 1 rfl rfl ?_
    refine x_get 29 C dX2_insert_26 X kf_X2_39 0 rfl rfl rfl ?_
    refine x_istore_n 30 C dX2_insert_29 [(3, .int m_count), (1, .long y21), (0, .ref h0)] hl rfl rfl rfl (fun ls hl => ?_)
    exact w_X2_insert_30 h0 h1 h2 h3 h4 h5 h6 h7 C N x m_threes m_unit m_found_a m_found_b R  N m_count m_primeA m_primeB m_norms y21 m_count _ _ _ X (lv_sub hl [2, 1, 0] rfl) hf
  obtain rfl := Option.some.inj hf
  exact R _ _ _ _ X dX2_insert_16
