set_option maxHeartbeats 4000000 in
set_option maxRecDepth 100000 in
theorem c_X10_split (l : Launch) (D : va_G) (T : KT) (h : Nat → Nat) (N : Nat) (v1 v2 : Int32) (m_drawers_full m_drawers_kept : Int32) (m_drawers_partA m_drawers_partB m_drawers_keptA m_drawers_keptB m_drawers_keptFull : Nat → Int32) (m_tape_size m_tape_plain m_tape_omegas m_tape_end m_tape_place m_tape_plainTold m_tape_omegasTold : Int32) (m_tape_bytes : Nat → Int32) (m_euclid_count : Int32) (m_euclid_last_a m_euclid_last_b m_euclid_lastOfFirst_a m_euclid_lastOfFirst_b m_euclid_lastOfSecond_a m_euclid_lastOfSecond_b m_euclid_next_a m_euclid_next_b m_euclid_nextOfFirst_a m_euclid_nextOfFirst_b m_euclid_nextOfSecond_a m_euclid_nextOfSecond_b m_euclid_q_a m_euclid_q_b : Int64) (m_euclid_quotientA m_euclid_quotientB : Nat → Int64) (m_modulus_step m_modulus_width m_modulus_slant m_modulus_square_a m_modulus_square_b : Int64) (m_factors_count m_factors_threes m_factors_unit : Int32) (m_factors_primeA m_factors_primeB m_factors_norms : Nat → Int64) (m_factors_euclid_count : Int32) (m_factors_euclid_last_a m_factors_euclid_last_b m_factors_euclid_lastOfFirst_a m_factors_euclid_lastOfFirst_b m_factors_euclid_lastOfSecond_a m_factors_euclid_lastOfSecond_b m_factors_euclid_next_a m_factors_euclid_next_b m_factors_euclid_nextOfFirst_a m_factors_euclid_nextOfFirst_b m_factors_euclid_nextOfSecond_a m_factors_euclid_nextOfSecond_b m_factors_euclid_q_a m_factors_euclid_q_b : Int64) (m_factors_euclid_quotientA m_factors_euclid_quotientB : Nat → Int64) (m_factors_left_a m_factors_left_b m_factors_found_a m_factors_found_b m_factors_product_a m_factors_product_b : Int64) (m_primes_count : Int32) (m_primes_primeA m_primes_primeB : Nat → Int32) (m_primes_found_a m_primes_found_b : Int64) (m_rings_foundA m_rings_foundB m_rings_all m_rings_mostOfOneRow m_letters_count : Int32) (m_letters_bytes : Nat → Int32) (m_one_a m_one_b m_two_a m_two_b m_three_a m_three_b m_four_a m_four_b m_out_a m_out_b m_spare_a m_spare_b : Int64) (m_marks : Nat → Int32) (x : Int32 × Int32 × (Nat → Int32) × (Nat → Int32) × Int64 × Int64) (hf : f_X10_split N v1 v2 m_drawers_full m_drawers_partA m_drawers_partB m_out_a m_out_b = some x) : kx_MI l yX10_split cX10_split 3 (some .int) 3 69 D T [.ref (h 0), .int v1, .int v2] (wC T h m_drawers_full m_drawers_kept m_drawers_partA m_drawers_partB m_drawers_keptA m_drawers_keptB m_drawers_keptFull m_tape_size m_tape_plain m_tape_omegas m_tape_end m_tape_place m_tape_plainTold m_tape_omegasTold m_tape_bytes m_euclid_count m_euclid_last_a m_euclid_last_b m_euclid_lastOfFirst_a m_euclid_lastOfFirst_b m_euclid_lastOfSecond_a m_euclid_lastOfSecond_b m_euclid_next_a m_euclid_next_b m_euclid_nextOfFirst_a m_euclid_nextOfFirst_b m_euclid_nextOfSecond_a m_euclid_nextOfSecond_b m_euclid_q_a m_euclid_q_b m_euclid_quotientA m_euclid_quotientB m_modulus_step m_modulus_width m_modulus_slant m_modulus_square_a m_modulus_square_b m_factors_count m_factors_threes m_factors_unit m_factors_primeA m_factors_primeB m_factors_norms m_factors_euclid_count m_factors_euclid_last_a m_factors_euclid_last_b m_factors_euclid_lastOfFirst_a m_factors_euclid_lastOfFirst_b m_factors_euclid_lastOfSecond_a m_factors_euclid_lastOfSecond_b m_factors_euclid_next_a m_factors_euclid_next_b m_factors_euclid_nextOfFirst_a m_factors_euclid_nextOfFirst_b m_factors_euclid_nextOfSecond_a m_factors_euclid_nextOfSecond_b m_factors_euclid_q_a m_factors_euclid_q_b m_factors_euclid_quotientA m_factors_euclid_quotientB m_factors_left_a m_factors_left_b m_factors_found_a m_factors_found_b m_factors_product_a m_factors_product_b m_primes_count m_primes_primeA m_primes_primeB m_primes_found_a m_primes_found_b m_rings_foundA m_rings_foundB m_rings_all m_rings_mostOfOneRow m_letters_count m_letters_bytes m_one_a m_one_b m_two_a m_two_b m_three_a m_three_b m_four_a m_four_b m_out_a m_out_b m_spare_a m_spare_b m_marks) (wC T h x.2.1 m_drawers_kept x.2.2.1 x.2.2.2.1 m_drawers_keptA m_drawers_keptB m_drawers_keptFull m_tape_size m_tape_plain m_tape_omegas m_tape_end m_tape_place m_tape_plainTold m_tape_omegasTold m_tape_bytes m_euclid_count m_euclid_last_a m_euclid_last_b m_euclid_lastOfFirst_a m_euclid_lastOfFirst_b m_euclid_lastOfSecond_a m_euclid_lastOfSecond_b m_euclid_next_a m_euclid_next_b m_euclid_nextOfFirst_a m_euclid_nextOfFirst_b m_euclid_nextOfSecond_a m_euclid_nextOfSecond_b m_euclid_q_a m_euclid_q_b m_euclid_quotientA m_euclid_quotientB m_modulus_step m_modulus_width m_modulus_slant m_modulus_square_a m_modulus_square_b m_factors_count m_factors_threes m_factors_unit m_factors_primeA m_factors_primeB m_factors_norms m_factors_euclid_count m_factors_euclid_last_a m_factors_euclid_last_b m_factors_euclid_lastOfFirst_a m_factors_euclid_lastOfFirst_b m_factors_euclid_lastOfSecond_a m_factors_euclid_lastOfSecond_b m_factors_euclid_next_a m_factors_euclid_next_b m_factors_euclid_nextOfFirst_a m_factors_euclid_nextOfFirst_b m_factors_euclid_nextOfSecond_a m_factors_euclid_nextOfSecond_b m_factors_euclid_q_a m_factors_euclid_q_b m_factors_euclid_quotientA m_factors_euclid_quotientB m_factors_left_a m_factors_left_b m_factors_found_a m_factors_found_b m_factors_product_a m_factors_product_b m_primes_count m_primes_primeA m_primes_primeB m_primes_found_a m_primes_found_b m_rings_foundA m_rings_foundB m_rings_all m_rings_mostOfOneRow m_letters_count m_letters_bytes m_one_a m_one_b m_two_a m_two_b m_three_a m_three_b m_four_a m_four_b x.2.2.2.2.1 x.2.2.2.2.2 m_spare_a m_spare_b m_marks) x.1 := by
  refine kx_ofMI RX10 rfl (plainFor_of_name (x := yX10_split) kpn_X10) rfl ?_
  intro E A H ls _ C X R hl
  have hl : lv_has ls 3 [(0, .ref (h 0)), (1, .int v1), (2, .int v2)] := hl
  rw [f_X10_split] at hf
  refine x_iload_n 1 C dX10_split_0 hl 1 rfl rfl ?_
  obtain ⟨y1, hy1, hf⟩ := kx_bind hf
  refine x_callSi 4 C dX10_split_1 X hl kl_X10_392 (c_X6_isThird E.2.1 D T  N v1  y1 hy1) [] rfl rfl rfl rfl rfl cb_2 rfl (fun H locs X => ?_)
  refine x_if_eq 14 7 C dX10_split_4 rfl rfl hf (fun hf => ?_) (fun hf => ?_)
  · refine x_iconst 15 C dX10_split_14 (-1 : Int32) kv_iconst_m1 rfl ?_
    obtain rfl := Option.some.inj hf
    exact R _ _ _ _ X dX10_split_15
  refine x_iload_n 8 C dX10_split_7 hl 2 rfl rfl ?_
  obtain ⟨y8, hy8, hf⟩ := kx_bind hf
  refine x_callSi 11 C dX10_split_8 X hl kl_X10_105 (c_X0_isOne E.2.1 D T  v2  y8 hy8) [] rfl rfl rfl rfl rfl cb_2 rfl (fun H locs X => ?_)
  refine x_if_ne 16 14 C dX10_split_11 rfl rfl hf (fun hf => ?_) (fun hf => ?_)
  · refine x_iload_n 17 C dX10_split_16 hl 1 rfl rfl ?_
    refine x_aload_n 18 C dX10_split_17 hl 0 rfl rfl ?_
    refine x_get 21 C dX10_split_18 X kf_X10_83 0 rfl rfl rfl ?_
    obtain ⟨y21, hy21, hf⟩ := kx_bind hf
    refine x_callSv 24 C dX10_split_21 X hl kl_X10_395 (c_X6_splitInto E.2.1 D T (h 49) N v1 m_out_a m_out_b y21 hy21) [] rfl rfl rfl rfl rfl cb_128 rfl (fun H locs X => ?_)
    refine x_aload_n 25 C dX10_split_24 hl 0 rfl rfl ?_
    refine x_get 28 C dX10_split_25 X kf_X10_12 0 rfl rfl rfl ?_
    refine x_iload_n 29 C dX10_split_28 hl 2 rfl rfl ?_
    refine x_aload_n 30 C dX10_split_29 hl 0 rfl rfl ?_
    refine x_get 33 C dX10_split_30 X kf_X10_83 0 rfl rfl rfl ?_
    refine x_get 36 C dX10_split_33 X kf_X10_145 49 rfl rfl rfl ?_
    refine x_l2i 37 C dX10_split_36 rfl ?_
    refine x_aload_n 38 C dX10_split_37 hl 0 rfl rfl ?_
    refine x_get 41 C dX10_split_38 X kf_X10_83 0 rfl rfl rfl ?_
    refine x_get 44 C dX10_split_41 X kf_X10_149 49 rfl rfl rfl ?_
    refine x_l2i 45 C dX10_split_44 rfl ?_
    obtain ⟨y45, hy45, hf⟩ := kx_bind hf
    refine x_callVv 48 C dX10_split_45 X hl kl_X10_118 (c_X0_fill E.2.1 D T (h 1) (h 2) (h 3) (h 4) (h 5) (h 6) v2 (y21.1).toInt32 (y21.2).toInt32 m_drawers_full m_drawers_kept m_drawers_partA m_drawers_partB y45 hy45) rfl rfl [] rfl rfl rfl rfl rfl cb_3 rfl (fun H locs X => ?_)
    refine x_aload_n 49 C dX10_split_48 hl 0 rfl rfl ?_
    refine x_get 52 C dX10_split_49 X kf_X10_83 0 rfl rfl rfl ?_
    refine x_get 55 C dX10_split_52 X kf_X10_149 49 rfl rfl rfl ?_
    refine x_l2i 56 C dX10_split_55 rfl ?_
    obtain rfl := Option.some.inj hf
    exact R _ _ _ _ X dX10_split_56
  refine x_iconst 15 C dX10_split_14 (-1 : Int32) kv_iconst_m1 rfl ?_
  obtain rfl := Option.some.inj hf
  exact R _ _ _ _ X dX10_split_15
set_option maxHeartbeats 4000000 in
set_option maxRecDepth 100000 in
theorem c_X11_split (l : Launch) (D : va_G) (T : KT) (h : Nat → Nat) (N : Nat) (v1 v2 : Int32) (m_taped m_states : Int32) (m_ra m_rb : Int64) (m_threes m_primes m_ones m_unit : Int32) (m_allParts m_allNorms m_allClasses : Int64) (m_odd : Int32) (m_boxWide m_boxHigh m_boxStep : Int64) (m_partingMany : Int32) (m_qa m_qb m_la m_lb m_sa m_sb m_ta m_tb : Int64) (m_listed m_tells m_wanted m_found : Int32) (m_bits : Int64) (m_power2 m_rings m_ringA m_ringB m_seedNow : Int32) (m_tape m_has m_keptHas m_first m_second m_keptFirst m_keptSecond m_pa m_pb m_pNorm m_cubed m_isOpen m_signs m_often m_la0 m_lb0 : Nat → Int32) (x : Int32 × Int64 × Int64 × (Nat → Int32) × (Nat → Int32) × (Nat → Int32)) (hf : f_X11_split N v1 v2 m_ra m_rb m_has m_first m_second = some x) : kx_MI l yX11_split cX11_split 3 (some .int) 3 72 D T [.ref (h 0), .int v1, .int v2] (wM T h m_taped m_states m_ra m_rb m_threes m_primes m_ones m_unit m_allParts m_allNorms m_allClasses m_odd m_boxWide m_boxHigh m_boxStep m_partingMany m_qa m_qb m_la m_lb m_sa m_sb m_ta m_tb m_listed m_tells m_wanted m_found m_bits m_power2 m_rings m_ringA m_ringB m_seedNow m_tape m_has m_keptHas m_first m_second m_keptFirst m_keptSecond m_pa m_pb m_pNorm m_cubed m_isOpen m_signs m_often m_la0 m_lb0) (wM T h m_taped m_states x.2.1 x.2.2.1 m_threes m_primes m_ones m_unit m_allParts m_allNorms m_allClasses m_odd m_boxWide m_boxHigh m_boxStep m_partingMany m_qa m_qb m_la m_lb m_sa m_sb m_ta m_tb m_listed m_tells m_wanted m_found m_bits m_power2 m_rings m_ringA m_ringB m_seedNow m_tape x.2.2.2.1 m_keptHas x.2.2.2.2.1 x.2.2.2.2.2 m_keptFirst m_keptSecond m_pa m_pb m_pNorm m_cubed m_isOpen m_signs m_often m_la0 m_lb0) x.1 := by
  refine kx_ofMI RX11 rfl (plainFor_of_name (x := yX11_split) kpn_X11) rfl ?_
  intro E A H ls _ C X R hl
  have hl : lv_has ls 3 [(0, .ref (h 0)), (1, .int v1), (2, .int v2)] := hl
  rw [f_X11_split] at hf
  refine x_iload_n 1 C dX11_split_0 hl 1 rfl rfl ?_
  obtain ⟨y1, hy1, hf⟩ := kx_bind hf
  refine x_callSi 4 C dX11_split_1 X hl kl_X11_378 (c_X11_isThird E.2.1 D T  N v1  y1 hy1) [] rfl rfl rfl rfl rfl cb_7 rfl (fun H locs X => ?_)
  refine x_if_eq 14 7 C dX11_split_4 rfl rfl hf (fun hf => ?_) (fun hf => ?_)
  · refine x_iconst 15 C dX11_split_14 (-1 : Int32) kv_iconst_m1 rfl ?_
    obtain rfl := Option.some.inj hf
    exact R _ _ _ _ X dX11_split_15
  refine x_iload_n 8 C dX11_split_7 hl 2 rfl rfl ?_
  obtain ⟨y8, hy8, hf⟩ := kx_bind hf
  refine x_callSi 11 C dX11_split_8 X hl kl_X11_85 (c_X11_isDrawer E.2.1 D T  v2  y8 hy8) [] rfl rfl rfl rfl rfl cb_7 rfl (fun H locs X => ?_)
  refine x_if_ne 16 14 C dX11_split_11 rfl rfl hf (fun hf => ?_) (fun hf => ?_)
  · refine x_aload_n 17 C dX11_split_16 hl 0 rfl rfl ?_
    refine x_iload_n 18 C dX11_split_17 hl 1 rfl rfl ?_
    obtain ⟨y18, hy18, hf⟩ := kx_bind hf
    refine x_callVv0 21 C dX11_split_18 X hl kl_X11_211 (c_X11_splits E.2.1 D T h N v1 m_taped m_states m_ra m_rb m_threes m_primes m_ones m_unit m_allParts m_allNorms m_allClasses m_odd m_boxWide m_boxHigh m_boxStep m_partingMany m_qa m_qb m_la m_lb m_sa m_sb m_ta m_tb m_listed m_tells m_wanted m_found m_bits m_power2 m_rings m_ringA m_ringB m_seedNow m_tape m_has m_keptHas m_first m_second m_keptFirst m_keptSecond m_pa m_pb m_pNorm m_cubed m_isOpen m_signs m_often m_la0 m_lb0 y18 hy18) rfl rfl [] rfl rfl rfl rfl rfl rfl (fun H locs X => ?_)
    refine x_aload_n 22 C dX11_split_21 hl 0 rfl rfl ?_
    refine x_iload_n 23 C dX11_split_22 hl 2 rfl rfl ?_
    refine x_aload_n 24 C dX11_split_23 hl 0 rfl rfl ?_
    refine x_get 27 C dX11_split_24 X kf_X11_105 0 rfl rfl rfl ?_
    refine x_aload_n 28 C dX11_split_27 hl 0 rfl rfl ?_
    refine x_get 31 C dX11_split_28 X kf_X11_109 0 rfl rfl rfl ?_
    obtain ⟨y31, hy31, hf⟩ := kx_bind hf
    refine x_callVv0 34 C dX11_split_31 X hl kl_X11_93 (c_X11_puts E.2.1 D T h v2 y18.1 y18.2 m_taped m_states y18.1 y18.2 m_threes m_primes m_ones m_unit m_allParts m_allNorms m_allClasses m_odd m_boxWide m_boxHigh m_boxStep m_partingMany m_qa m_qb m_la m_lb m_sa m_sb m_ta m_tb m_listed m_tells m_wanted m_found m_bits m_power2 m_rings m_ringA m_ringB m_seedNow m_tape m_has m_keptHas m_first m_second m_keptFirst m_keptSecond m_pa m_pb m_pNorm m_cubed m_isOpen m_signs m_often m_la0 m_lb0 y31 hy31) rfl rfl [] rfl rfl rfl rfl rfl rfl (fun H locs X => ?_)
    refine x_aload_n 35 C dX11_split_34 hl 0 rfl rfl ?_
    refine x_get 38 C dX11_split_35 X kf_X11_24 0 rfl rfl rfl ?_
    refine x_iload_n 39 C dX11_split_38 hl 2 rfl rfl ?_
    refine x_iald 40 C dX11_split_39 X 5 rfl hf rfl (fun hf => ?_)
    obtain rfl := Option.some.inj hf
    exact R _ _ _ _ X dX11_split_40
  refine x_iconst 15 C dX11_split_14 (-1 : Int32) kv_iconst_m1 rfl ?_
  obtain rfl := Option.some.inj hf
  exact R _ _ _ _ X dX11_split_15
set_option maxHeartbeats 4000000 in
set_option maxRecDepth 100000 in
theorem w_X10_thirds_13 {E : KE} {A : Nat → Prop} {D : va_G} {T : KT} (h : Nat → Nat) (C : kx_C E cX10_thirds 4 (some .int) RX10 2 41 D T) (N : Nat) (x : Int32) (m_drawers_full m_drawers_kept : Int32) (m_drawers_partA m_drawers_partB m_drawers_keptA m_drawers_keptB m_drawers_keptFull : Nat → Int32) (m_tape_size m_tape_plain m_tape_omegas m_tape_end m_tape_place m_tape_plainTold m_tape_omegasTold : Int32) (m_tape_bytes : Nat → Int32) (m_euclid_count : Int32) (m_euclid_last_a m_euclid_last_b m_euclid_lastOfFirst_a m_euclid_lastOfFirst_b m_euclid_lastOfSecond_a m_euclid_lastOfSecond_b m_euclid_next_a m_euclid_next_b m_euclid_nextOfFirst_a m_euclid_nextOfFirst_b m_euclid_nextOfSecond_a m_euclid_nextOfSecond_b m_euclid_q_a m_euclid_q_b : Int64) (m_euclid_quotientA m_euclid_quotientB : Nat → Int64) (m_modulus_step m_modulus_width m_modulus_slant m_modulus_square_a m_modulus_square_b : Int64) (m_factors_count m_factors_threes m_factors_unit : Int32) (m_factors_primeA m_factors_primeB m_factors_norms : Nat → Int64) (m_factors_euclid_count : Int32) (m_factors_euclid_last_a m_factors_euclid_last_b m_factors_euclid_lastOfFirst_a m_factors_euclid_lastOfFirst_b m_factors_euclid_lastOfSecond_a m_factors_euclid_lastOfSecond_b m_factors_euclid_next_a m_factors_euclid_next_b m_factors_euclid_nextOfFirst_a m_factors_euclid_nextOfFirst_b m_factors_euclid_nextOfSecond_a m_factors_euclid_nextOfSecond_b m_factors_euclid_q_a m_factors_euclid_q_b : Int64) (m_factors_euclid_quotientA m_factors_euclid_quotientB : Nat → Int64) (m_factors_left_a m_factors_left_b m_factors_found_a m_factors_found_b m_factors_product_a m_factors_product_b : Int64) (m_primes_count : Int32) (m_primes_primeA m_primes_primeB : Nat → Int32) (m_primes_found_a m_primes_found_b : Int64) (m_rings_foundA m_rings_foundB m_rings_all m_rings_mostOfOneRow m_letters_count : Int32) (m_letters_bytes : Nat → Int32) (m_one_a m_one_b m_two_a m_two_b m_three_a m_three_b m_four_a m_four_b m_out_a m_out_b m_spare_a m_spare_b : Int64) (m_marks : Nat → Int32) (R : kx_RI E cX10_thirds D A (wC T h m_drawers_full m_drawers_kept m_drawers_partA m_drawers_partB m_drawers_keptA m_drawers_keptB m_drawers_keptFull m_tape_size m_tape_plain m_tape_omegas m_tape_end m_tape_place m_tape_plainTold m_tape_omegasTold m_tape_bytes m_euclid_count m_euclid_last_a m_euclid_last_b m_euclid_lastOfFirst_a m_euclid_lastOfFirst_b m_euclid_lastOfSecond_a m_euclid_lastOfSecond_b m_euclid_next_a m_euclid_next_b m_euclid_nextOfFirst_a m_euclid_nextOfFirst_b m_euclid_nextOfSecond_a m_euclid_nextOfSecond_b m_euclid_q_a m_euclid_q_b m_euclid_quotientA m_euclid_quotientB m_modulus_step m_modulus_width m_modulus_slant m_modulus_square_a m_modulus_square_b m_factors_count m_factors_threes m_factors_unit m_factors_primeA m_factors_primeB m_factors_norms m_factors_euclid_count m_factors_euclid_last_a m_factors_euclid_last_b m_factors_euclid_lastOfFirst_a m_factors_euclid_lastOfFirst_b m_factors_euclid_lastOfSecond_a m_factors_euclid_lastOfSecond_b m_factors_euclid_next_a m_factors_euclid_next_b m_factors_euclid_nextOfFirst_a m_factors_euclid_nextOfFirst_b m_factors_euclid_nextOfSecond_a m_factors_euclid_nextOfSecond_b m_factors_euclid_q_a m_factors_euclid_q_b m_factors_euclid_quotientA m_factors_euclid_quotientB m_factors_left_a m_factors_left_b m_factors_found_a m_factors_found_b m_factors_product_a m_factors_product_b m_primes_count m_primes_primeA m_primes_primeB m_primes_found_a m_primes_found_b m_rings_foundA m_rings_foundB m_rings_all m_rings_mostOfOneRow m_letters_count m_letters_bytes m_one_a m_one_b m_two_a m_two_b m_three_a m_three_b m_four_a m_four_b m_out_a m_out_b m_spare_a m_spare_b m_marks) x) : ∀ (k : Nat), ∀  (v1 v2 v3 : Int32) (H : Heap) (locs : List Loc) (ls : Array Slot), kx_H E D A H locs (wC T h m_drawers_full m_drawers_kept m_drawers_partA m_drawers_partB m_drawers_keptA m_drawers_keptB m_drawers_keptFull m_tape_size m_tape_plain m_tape_omegas m_tape_end m_tape_place m_tape_plainTold m_tape_omegasTold m_tape_bytes m_euclid_count m_euclid_last_a m_euclid_last_b m_euclid_lastOfFirst_a m_euclid_lastOfFirst_b m_euclid_lastOfSecond_a m_euclid_lastOfSecond_b m_euclid_next_a m_euclid_next_b m_euclid_nextOfFirst_a m_euclid_nextOfFirst_b m_euclid_nextOfSecond_a m_euclid_nextOfSecond_b m_euclid_q_a m_euclid_q_b m_euclid_quotientA m_euclid_quotientB m_modulus_step m_modulus_width m_modulus_slant m_modulus_square_a m_modulus_square_b m_factors_count m_factors_threes m_factors_unit m_factors_primeA m_factors_primeB m_factors_norms m_factors_euclid_count m_factors_euclid_last_a m_factors_euclid_last_b m_factors_euclid_lastOfFirst_a m_factors_euclid_lastOfFirst_b m_factors_euclid_lastOfSecond_a m_factors_euclid_lastOfSecond_b m_factors_euclid_next_a m_factors_euclid_next_b m_factors_euclid_nextOfFirst_a m_factors_euclid_nextOfFirst_b m_factors_euclid_nextOfSecond_a m_factors_euclid_nextOfSecond_b m_factors_euclid_q_a m_factors_euclid_q_b m_factors_euclid_quotientA m_factors_euclid_quotientB m_factors_left_a m_factors_left_b m_factors_found_a m_factors_found_b m_factors_product_a m_factors_product_b m_primes_count m_primes_primeA m_primes_primeB m_primes_found_a m_primes_found_b m_rings_foundA m_rings_foundB m_rings_all m_rings_mostOfOneRow m_letters_count m_letters_bytes m_one_a m_one_b m_two_a m_two_b m_three_a m_three_b m_four_a m_four_b m_out_a m_out_b m_spare_a m_spare_b m_marks) → lv_has ls 4 [(1, .int v1), (2, .int v2), (3, .int v3)] → f_X10_thirds_13 N k v1 v2 v3 = some x → kx_W E H locs 13 ls [] := by
  intro k
  induction k with
  | zero =>
    intro v1 v2 v3 H locs ls X hl hf
    cases (show (none : Option (Int32)) = some x from hf)
  | succ k ih =>
    intro v1 v2 v3 H locs ls X hl hf
    rw [f_X10_thirds_13] at hf
    refine x_iload_n 14 C dX10_thirds_13 hl 2 rfl rfl ?_
    refine x_sipush 17 C dX10_thirds_14 (997 : Int32) kv_sipush_997 rfl ?_
    refine x_icmp_gt 43 20 C dX10_thirds_17 rfl rfl hf (fun hf => ?_) (fun hf => ?_)
    · refine x_iload_n 44 C dX10_thirds_43 hl 0 rfl rfl ?_
      refine x_iconst 45 C dX10_thirds_44 (-1 : Int32) kv_iconst_m1 rfl ?_
      refine x_icmp_ne 52 48 C dX10_thirds_45 rfl rfl hf (fun hf => ?_) (fun hf => ?_)
      · refine x_bipush 54 C dX10_thirds_52 (-2 : Int32) kv_bipush_m2 rfl ?_
        obtain rfl := Option.some.inj hf
        exact R _ _ _ _ X dX10_thirds_54
      refine x_iload_n 49 C dX10_thirds_48 hl 1 rfl rfl ?_
      refine x_goto 54 C dX10_thirds_49 rfl ?_
      obtain rfl := Option.some.inj hf
      exact R _ _ _ _ X dX10_thirds_54
    refine x_iload_n 21 C dX10_thirds_20 hl 2 rfl rfl ?_
    obtain ⟨y21, hy21, hf⟩ := kx_bind hf
    refine x_callSi 24 C dX10_thirds_21 X hl kl_X10_392 (c_X6_isThird E.2.1 D T  N v3  y21 hy21) [] rfl rfl rfl rfl rfl cb_2 rfl (fun H locs X => ?_)
    refine x_if_eq 37 27 C dX10_thirds_24 rfl rfl hf (fun hf => ?_) (fun hf => ?_)
    · refine x_iinc 40 C dX10_thirds_37 (1 : Int32) kv_iconst_1 [(3, .int (v3 + (1 : Int32))), (1, .int v1), (2, .int v2)] hl 2 rfl rfl rfl rfl (fun ls hl => ?_)
      refine x_goto 13 C dX10_thirds_40 rfl ?_
      exact ih v1 v2 (v3 + (1 : Int32)) _ _ _ X (lv_sub hl [1, 2, 0] rfl) hf
    refine x_iload_n 28 C dX10_thirds_27 hl 1 rfl rfl ?_
    refine x_iload_n 29 C dX10_thirds_28 hl 0 rfl rfl ?_
    refine x_icmp_ne 34 32 C dX10_thirds_29 rfl rfl hf (fun hf => ?_) (fun hf => ?_)
    · refine x_iinc 37 C dX10_thirds_34 (1 : Int32) kv_iconst_1 [(2, .int (v2 + (1 : Int32))), (1, .int v1), (3, .int v3)] hl 1 rfl rfl rfl rfl (fun ls hl => ?_)
      refine x_iinc 40 C dX10_thirds_37 (1 : Int32) kv_iconst_1 [(3, .int (v3 + (1 : Int32))), (2, .int (v2 + (1 : Int32))), (1, .int v1)] hl 2 rfl rfl rfl rfl (fun ls hl => ?_)
      refine x_goto 13 C dX10_thirds_40 rfl ?_
      exact ih v1 (v2 + (1 : Int32)) (v3 + (1 : Int32)) _ _ _ X (lv_sub hl [2, 1, 0] rfl) hf
    refine x_iload_n 33 C dX10_thirds_32 hl 2 rfl rfl ?_
    obtain rfl := Option.some.inj hf
    exact R _ _ _ _ X dX10_thirds_33
set_option maxHeartbeats 4000000 in
set_option maxRecDepth 100000 in
theorem c_X10_thirds (l : Launch) (D : va_G) (T : KT) (h : Nat → Nat) (N : Nat) (v1 : Int32) (m_drawers_full m_drawers_kept : Int32) (m_drawers_partA m_drawers_partB m_drawers_keptA m_drawers_keptB m_drawers_keptFull : Nat → Int32) (m_tape_size m_tape_plain m_tape_omegas m_tape_end m_tape_place m_tape_plainTold m_tape_omegasTold : Int32) (m_tape_bytes : Nat → Int32) (m_euclid_count : Int32) (m_euclid_last_a m_euclid_last_b m_euclid_lastOfFirst_a m_euclid_lastOfFirst_b m_euclid_lastOfSecond_a m_euclid_lastOfSecond_b m_euclid_next_a m_euclid_next_b m_euclid_nextOfFirst_a m_euclid_nextOfFirst_b m_euclid_nextOfSecond_a m_euclid_nextOfSecond_b m_euclid_q_a m_euclid_q_b : Int64) (m_euclid_quotientA m_euclid_quotientB : Nat → Int64) (m_modulus_step m_modulus_width m_modulus_slant m_modulus_square_a m_modulus_square_b : Int64) (m_factors_count m_factors_threes m_factors_unit : Int32) (m_factors_primeA m_factors_primeB m_factors_norms : Nat → Int64) (m_factors_euclid_count : Int32) (m_factors_euclid_last_a m_factors_euclid_last_b m_factors_euclid_lastOfFirst_a m_factors_euclid_lastOfFirst_b m_factors_euclid_lastOfSecond_a m_factors_euclid_lastOfSecond_b m_factors_euclid_next_a m_factors_euclid_next_b m_factors_euclid_nextOfFirst_a m_factors_euclid_nextOfFirst_b m_factors_euclid_nextOfSecond_a m_factors_euclid_nextOfSecond_b m_factors_euclid_q_a m_factors_euclid_q_b : Int64) (m_factors_euclid_quotientA m_factors_euclid_quotientB : Nat → Int64) (m_factors_left_a m_factors_left_b m_factors_found_a m_factors_found_b m_factors_product_a m_factors_product_b : Int64) (m_primes_count : Int32) (m_primes_primeA m_primes_primeB : Nat → Int32) (m_primes_found_a m_primes_found_b : Int64) (m_rings_foundA m_rings_foundB m_rings_all m_rings_mostOfOneRow m_letters_count : Int32) (m_letters_bytes : Nat → Int32) (m_one_a m_one_b m_two_a m_two_b m_three_a m_three_b m_four_a m_four_b m_out_a m_out_b m_spare_a m_spare_b : Int64) (m_marks : Nat → Int32) (x : Int32) (hf : f_X10_thirds N v1 = some x) : kx_MI l yX10_thirds cX10_thirds 4 (some .int) 2 41 D T [.ref (h 0), .int v1] (wC T h m_drawers_full m_drawers_kept m_drawers_partA m_drawers_partB m_drawers_keptA m_drawers_keptB m_drawers_keptFull m_tape_size m_tape_plain m_tape_omegas m_tape_end m_tape_place m_tape_plainTold m_tape_omegasTold m_tape_bytes m_euclid_count m_euclid_last_a m_euclid_last_b m_euclid_lastOfFirst_a m_euclid_lastOfFirst_b m_euclid_lastOfSecond_a m_euclid_lastOfSecond_b m_euclid_next_a m_euclid_next_b m_euclid_nextOfFirst_a m_euclid_nextOfFirst_b m_euclid_nextOfSecond_a m_euclid_nextOfSecond_b m_euclid_q_a m_euclid_q_b m_euclid_quotientA m_euclid_quotientB m_modulus_step m_modulus_width m_modulus_slant m_modulus_square_a m_modulus_square_b m_factors_count m_factors_threes m_factors_unit m_factors_primeA m_factors_primeB m_factors_norms m_factors_euclid_count m_factors_euclid_last_a m_factors_euclid_last_b m_factors_euclid_lastOfFirst_a m_factors_euclid_lastOfFirst_b m_factors_euclid_lastOfSecond_a m_factors_euclid_lastOfSecond_b m_factors_euclid_next_a m_factors_euclid_next_b m_factors_euclid_nextOfFirst_a m_factors_euclid_nextOfFirst_b m_factors_euclid_nextOfSecond_a m_factors_euclid_nextOfSecond_b m_factors_euclid_q_a m_factors_euclid_q_b m_factors_euclid_quotientA m_factors_euclid_quotientB m_factors_left_a m_factors_left_b m_factors_found_a m_factors_found_b m_factors_product_a m_factors_product_b m_primes_count m_primes_primeA m_primes_primeB m_primes_found_a m_primes_found_b m_rings_foundA m_rings_foundB m_rings_all m_rings_mostOfOneRow m_letters_count m_letters_bytes m_one_a m_one_b m_two_a m_two_b m_three_a m_three_b m_four_a m_four_b m_out_a m_out_b m_spare_a m_spare_b m_marks) (wC T h m_drawers_full m_drawers_kept m_drawers_partA m_drawers_partB m_drawers_keptA m_drawers_keptB m_drawers_keptFull m_tape_size m_tape_plain m_tape_omegas m_tape_end m_tape_place m_tape_plainTold m_tape_omegasTold m_tape_bytes m_euclid_count m_euclid_last_a m_euclid_last_b m_euclid_lastOfFirst_a m_euclid_lastOfFirst_b m_euclid_lastOfSecond_a m_euclid_lastOfSecond_b m_euclid_next_a m_euclid_next_b m_euclid_nextOfFirst_a m_euclid_nextOfFirst_b m_euclid_nextOfSecond_a m_euclid_nextOfSecond_b m_euclid_q_a m_euclid_q_b m_euclid_quotientA m_euclid_quotientB m_modulus_step m_modulus_width m_modulus_slant m_modulus_square_a m_modulus_square_b m_factors_count m_factors_threes m_factors_unit m_factors_primeA m_factors_primeB m_factors_norms m_factors_euclid_count m_factors_euclid_last_a m_factors_euclid_last_b m_factors_euclid_lastOfFirst_a m_factors_euclid_lastOfFirst_b m_factors_euclid_lastOfSecond_a m_factors_euclid_lastOfSecond_b m_factors_euclid_next_a m_factors_euclid_next_b m_factors_euclid_nextOfFirst_a m_factors_euclid_nextOfFirst_b m_factors_euclid_nextOfSecond_a m_factors_euclid_nextOfSecond_b m_factors_euclid_q_a m_factors_euclid_q_b m_factors_euclid_quotientA m_factors_euclid_quotientB m_factors_left_a m_factors_left_b m_factors_found_a m_factors_found_b m_factors_product_a m_factors_product_b m_primes_count m_primes_primeA m_primes_primeB m_primes_found_a m_primes_found_b m_rings_foundA m_rings_foundB m_rings_all m_rings_mostOfOneRow m_letters_count m_letters_bytes m_one_a m_one_b m_two_a m_two_b m_three_a m_three_b m_four_a m_four_b m_out_a m_out_b m_spare_a m_spare_b m_marks) x := by
  refine kx_ofMI RX10 rfl (plainFor_of_name (x := yX10_thirds) kpn_X10) rfl ?_
  intro E A H ls _ C X R hl
  have hl : lv_has ls 4 [(0, .ref (h 0)), (1, .int v1)] := hl
  rw [f_X10_thirds] at hf
  refine x_iload_n 1 C dX10_thirds_0 hl 1 rfl rfl ?_
  refine x_iconst 2 C dX10_thirds_1 (-1 : Int32) kv_iconst_m1 rfl ?_
  refine x_icmp_ge 8 5 C dX10_thirds_2 rfl rfl hf (fun hf => ?_) (fun hf => ?_)
  · refine x_iconst 9 C dX10_thirds_8 (0 : Int32) kv_iconst_0 rfl ?_
    refine x_istore_n 10 C dX10_thirds_9 [(2, .int (0 : Int32)), (0, .ref (h 0)), (1, .int v1)] hl rfl rfl rfl (fun ls hl => ?_)
    refine x_bipush 12 C dX10_thirds_10 (7 : Int32) kv_bipush_7 rfl ?_
    refine x_istore_n 13 C dX10_thirds_12 [(3, .int (7 : Int32)), (2, .int (0 : Int32)), (0, .ref (h 0)), (1, .int v1)] hl rfl rfl rfl (fun ls hl => ?_)
    exact w_X10_thirds_13 h C N x m_drawers_full m_drawers_kept m_drawers_partA m_drawers_partB m_drawers_keptA m_drawers_keptB m_drawers_keptFull m_tape_size m_tape_plain m_tape_omegas m_tape_end m_tape_place m_tape_plainTold m_tape_omegasTold m_tape_bytes m_euclid_count m_euclid_last_a m_euclid_last_b m_euclid_lastOfFirst_a m_euclid_lastOfFirst_b m_euclid_lastOfSecond_a m_euclid_lastOfSecond_b m_euclid_next_a m_euclid_next_b m_euclid_nextOfFirst_a m_euclid_nextOfFirst_b m_euclid_nextOfSecond_a m_euclid_nextOfSecond_b m_euclid_q_a m_euclid_q_b m_euclid_quotientA m_euclid_quotientB m_modulus_step m_modulus_width m_modulus_slant m_modulus_square_a m_modulus_square_b m_factors_count m_factors_threes m_factors_unit m_factors_primeA m_factors_primeB m_factors_norms m_factors_euclid_count m_factors_euclid_last_a m_factors_euclid_last_b m_factors_euclid_lastOfFirst_a m_factors_euclid_lastOfFirst_b m_factors_euclid_lastOfSecond_a m_factors_euclid_lastOfSecond_b m_factors_euclid_next_a m_factors_euclid_next_b m_factors_euclid_nextOfFirst_a m_factors_euclid_nextOfFirst_b m_factors_euclid_nextOfSecond_a m_factors_euclid_nextOfSecond_b m_factors_euclid_q_a m_factors_euclid_q_b m_factors_euclid_quotientA m_factors_euclid_quotientB m_factors_left_a m_factors_left_b m_factors_found_a m_factors_found_b m_factors_product_a m_factors_product_b m_primes_count m_primes_primeA m_primes_primeB m_primes_found_a m_primes_found_b m_rings_foundA m_rings_foundB m_rings_all m_rings_mostOfOneRow m_letters_count m_letters_bytes m_one_a m_one_b m_two_a m_two_b m_three_a m_three_b m_four_a m_four_b m_out_a m_out_b m_spare_a m_spare_b m_marks R  N v1 (0 : Int32) (7 : Int32) _ _ _ X (lv_sub hl [3, 1, 0] rfl) hf
  refine x_bipush 7 C dX10_thirds_5 (-3 : Int32) kv_bipush_m3 rfl ?_
  obtain rfl := Option.some.inj hf
  exact R _ _ _ _ X dX10_thirds_7
set_option maxHeartbeats 4000000 in
set_option maxRecDepth 100000 in
theorem w_X11_thirds_13 {E : KE} {A : Nat → Prop} {D : va_G} {T : KT} (h : Nat → Nat) (C : kx_C E cX11_thirds 4 (some .int) RX11 3 61 D T) (N : Nat) (x : Int32) (m_taped m_states : Int32) (m_ra m_rb : Int64) (m_threes m_primes m_ones m_unit : Int32) (m_allParts m_allNorms m_allClasses : Int64) (m_odd : Int32) (m_boxWide m_boxHigh m_boxStep : Int64) (m_partingMany : Int32) (m_qa m_qb m_la m_lb m_sa m_sb m_ta m_tb : Int64) (m_listed m_tells m_wanted m_found : Int32) (m_bits : Int64) (m_power2 m_rings m_ringA m_ringB m_seedNow : Int32) (m_tape m_has m_keptHas m_first m_second m_keptFirst m_keptSecond m_pa m_pb m_pNorm m_cubed m_isOpen m_signs m_often m_la0 m_lb0 : Nat → Int32) (R : kx_RI E cX11_thirds D A (wM T h m_taped m_states m_ra m_rb m_threes m_primes m_ones m_unit m_allParts m_allNorms m_allClasses m_odd m_boxWide m_boxHigh m_boxStep m_partingMany m_qa m_qb m_la m_lb m_sa m_sb m_ta m_tb m_listed m_tells m_wanted m_found m_bits m_power2 m_rings m_ringA m_ringB m_seedNow m_tape m_has m_keptHas m_first m_second m_keptFirst m_keptSecond m_pa m_pb m_pNorm m_cubed m_isOpen m_signs m_often m_la0 m_lb0) x) : ∀ (k : Nat), ∀  (v1 v2 v3 : Int32) (H : Heap) (locs : List Loc) (ls : Array Slot), kx_H E D A H locs (wM T h m_taped m_states m_ra m_rb m_threes m_primes m_ones m_unit m_allParts m_allNorms m_allClasses m_odd m_boxWide m_boxHigh m_boxStep m_partingMany m_qa m_qb m_la m_lb m_sa m_sb m_ta m_tb m_listed m_tells m_wanted m_found m_bits m_power2 m_rings m_ringA m_ringB m_seedNow m_tape m_has m_keptHas m_first m_second m_keptFirst m_keptSecond m_pa m_pb m_pNorm m_cubed m_isOpen m_signs m_often m_la0 m_lb0) → lv_has ls 4 [(1, .int v1), (2, .int v2), (3, .int v3)] → f_X11_thirds_13 N k v1 v2 v3 = some x → kx_W E H locs 13 ls [] := by
  intro k
  induction k with
  | zero =>
    intro v1 v2 v3 H locs ls X hl hf
    cases (show (none : Option (Int32)) = some x from hf)
  | succ k ih =>
    intro v1 v2 v3 H locs ls X hl hf
    rw [f_X11_thirds_13] at hf
    refine x_iload_n 14 C dX11_thirds_13 hl 2 rfl rfl ?_
    refine x_sipush 17 C dX11_thirds_14 (997 : Int32) kv_sipush_997 rfl ?_
    refine x_icmp_gt 47 20 C dX11_thirds_17 rfl rfl hf (fun hf => ?_) (fun hf => ?_)
    · refine x_iload_n 48 C dX11_thirds_47 hl 0 rfl rfl ?_
      refine x_iconst 49 C dX11_thirds_48 (-1 : Int32) kv_iconst_m1 rfl ?_
      refine x_icmp_ne 56 52 C dX11_thirds_49 rfl rfl hf (fun hf => ?_) (fun hf => ?_)
      · refine x_bipush 58 C dX11_thirds_56 (-2 : Int32) kv_bipush_m2 rfl ?_
        obtain rfl := Option.some.inj hf
        exact R _ _ _ _ X dX11_thirds_58
      refine x_iload_n 53 C dX11_thirds_52 hl 1 rfl rfl ?_
      refine x_goto 58 C dX11_thirds_53 rfl ?_
      obtain rfl := Option.some.inj hf
      exact R _ _ _ _ X dX11_thirds_58
    refine x_iload_n 21 C dX11_thirds_20 hl 2 rfl rfl ?_
    obtain ⟨y21, hy21, hf⟩ := kx_bind hf
    refine x_callSi 24 C dX11_thirds_21 X hl kl_X11_378 (c_X11_isThird E.2.1 D T  N v3  y21 hy21) [] rfl rfl rfl rfl rfl cb_7 rfl (fun H locs X => ?_)
    refine x_if_ne 30 27 C dX11_thirds_24 rfl rfl hf (fun hf => ?_) (fun hf => ?_)
    · refine x_iload_n 31 C dX11_thirds_30 hl 1 rfl rfl ?_
      refine x_iload_n 32 C dX11_thirds_31 hl 0 rfl rfl ?_
      refine x_icmp_ne 37 35 C dX11_thirds_32 rfl rfl hf (fun hf => ?_) (fun hf => ?_)
      · refine x_iload_n 38 C dX11_thirds_37 hl 1 rfl rfl ?_
        refine x_iconst 39 C dX11_thirds_38 (1 : Int32) kv_iconst_1 rfl ?_
        refine x_iadd 40 C dX11_thirds_39 rfl ?_
        refine x_istore_n 41 C dX11_thirds_40 [(2, .int (v2 + (1 : Int32))), (1, .int v1), (3, .int v3)] hl rfl rfl rfl (fun ls hl => ?_)
        refine x_iinc 44 C dX11_thirds_41 (1 : Int32) kv_iconst_1 [(3, .int (v3 + (1 : Int32))), (2, .int (v2 + (1 : Int32))), (1, .int v1)] hl 2 rfl rfl rfl rfl (fun ls hl => ?_)
        refine x_goto 13 C dX11_thirds_44 rfl ?_
        exact ih v1 (v2 + (1 : Int32)) (v3 + (1 : Int32)) _ _ _ X (lv_sub hl [2, 1, 0] rfl) hf
      refine x_iload_n 36 C dX11_thirds_35 hl 2 rfl rfl ?_
      obtain rfl := Option.some.inj hf
      exact R _ _ _ _ X dX11_thirds_36
    refine x_goto 41 C dX11_thirds_27 rfl ?_
    refine x_iinc 44 C dX11_thirds_41 (1 : Int32) kv_iconst_1 [(3, .int (v3 + (1 : Int32))), (1, .int v1), (2, .int v2)] hl 2 rfl rfl rfl rfl (fun ls hl => ?_)
    refine x_goto 13 C dX11_thirds_44 rfl ?_
    exact ih v1 v2 (v3 + (1 : Int32)) _ _ _ X (lv_sub hl [1, 2, 0] rfl) hf
set_option maxHeartbeats 4000000 in
set_option maxRecDepth 100000 in
theorem c_X11_thirds (l : Launch) (D : va_G) (T : KT) (h : Nat → Nat) (N : Nat) (v1 : Int32) (m_taped m_states : Int32) (m_ra m_rb : Int64) (m_threes m_primes m_ones m_unit : Int32) (m_allParts m_allNorms m_allClasses : Int64) (m_odd : Int32) (m_boxWide m_boxHigh m_boxStep : Int64) (m_partingMany : Int32) (m_qa m_qb m_la m_lb m_sa m_sb m_ta m_tb : Int64) (m_listed m_tells m_wanted m_found : Int32) (m_bits : Int64) (m_power2 m_rings m_ringA m_ringB m_seedNow : Int32) (m_tape m_has m_keptHas m_first m_second m_keptFirst m_keptSecond m_pa m_pb m_pNorm m_cubed m_isOpen m_signs m_often m_la0 m_lb0 : Nat → Int32) (x : Int32) (hf : f_X11_thirds N v1 = some x) : kx_MI l yX11_thirds cX11_thirds 4 (some .int) 3 61 D T [.ref (h 0), .int v1] (wM T h m_taped m_states m_ra m_rb m_threes m_primes m_ones m_unit m_allParts m_allNorms m_allClasses m_odd m_boxWide m_boxHigh m_boxStep m_partingMany m_qa m_qb m_la m_lb m_sa m_sb m_ta m_tb m_listed m_tells m_wanted m_found m_bits m_power2 m_rings m_ringA m_ringB m_seedNow m_tape m_has m_keptHas m_first m_second m_keptFirst m_keptSecond m_pa m_pb m_pNorm m_cubed m_isOpen m_signs m_often m_la0 m_lb0) (wM T h m_taped m_states m_ra m_rb m_threes m_primes m_ones m_unit m_allParts m_allNorms m_allClasses m_odd m_boxWide m_boxHigh m_boxStep m_partingMany m_qa m_qb m_la m_lb m_sa m_sb m_ta m_tb m_listed m_tells m_wanted m_found m_bits m_power2 m_rings m_ringA m_ringB m_seedNow m_tape m_has m_keptHas m_first m_second m_keptFirst m_keptSecond m_pa m_pb m_pNorm m_cubed m_isOpen m_signs m_often m_la0 m_lb0) x := by
  refine kx_ofMI RX11 rfl (plainFor_of_name (x := yX11_thirds) kpn_X11) rfl ?_
  intro E A H ls _ C X R hl
  have hl : lv_has ls 4 [(0, .ref (h 0)), (1, .int v1)] := hl
  rw [f_X11_thirds] at hf
  refine x_iload_n 1 C dX11_thirds_0 hl 1 rfl rfl ?_
  refine x_iconst 2 C dX11_thirds_1 (-1 : Int32) kv_iconst_m1 rfl ?_
  refine x_icmp_ge 8 5 C dX11_thirds_2 rfl rfl hf (fun hf => ?_) (fun hf => ?_)
  · refine x_iconst 9 C dX11_thirds_8 (0 : Int32) kv_iconst_0 rfl ?_
    refine x_istore_n 10 C dX11_thirds_9 [(2, .int (0 : Int32)), (0, .ref (h 0)), (1, .int v1)] hl rfl rfl rfl (fun ls hl => ?_)
    refine x_bipush 12 C dX11_thirds_10 (7 : Int32) kv_bipush_7 rfl ?_
    refine x_istore_n 13 C dX11_thirds_12 [(3, .int (7 : Int32)), (2, .int (0 : Int32)), (0, .ref (h 0)), (1, .int v1)] hl rfl rfl rfl (fun ls hl => ?_)
    exact w_X11_thirds_13 h C N x m_taped m_states m_ra m_rb m_threes m_primes m_ones m_unit m_allParts m_allNorms m_allClasses m_odd m_boxWide m_boxHigh m_boxStep m_partingMany m_qa m_qb m_la m_lb m_sa m_sb m_ta m_tb m_listed m_tells m_wanted m_found m_bits m_power2 m_rings m_ringA m_ringB m_seedNow m_tape m_has m_keptHas m_first m_second m_keptFirst m_keptSecond m_pa m_pb m_pNorm m_cubed m_isOpen m_signs m_often m_la0 m_lb0 R  N v1 (0 : Int32) (7 : Int32) _ _ _ X (lv_sub hl [3, 1, 0] rfl) hf
  refine x_bipush 7 C dX11_thirds_5 (-3 : Int32) kv_bipush_m3 rfl ?_
  obtain rfl := Option.some.inj hf
  exact R _ _ _ _ X dX11_thirds_7
set_option maxHeartbeats 4000000 in
set_option maxRecDepth 100000 in
theorem c_X6_add (l : Launch) (D : va_G) (T : KT) (h0 h1 h2 h3 : Nat) (v1 v2 : Int32) (m_count : Int32) (m_primeA m_primeB : Nat → Int32) (x : Int32 × (Nat → Int32) × (Nat → Int32)) (hf : f_X6_add v1 v2 m_count m_primeA m_primeB = some x) : kx_MV l yX6_add cX6_add 3 none 0 0 D T [.ref h0, .int v1, .int v2] (w47_X6 T h0 h1 h2 h3 m_count m_primeA m_primeB) (w47_X6 T h0 h1 h2 h3 x.1 x.2.1 x.2.2) := by
  refine kx_ofMV RX6 rfl (plainFor_of_name (x := yX6_add) kpn_X6) rfl ?_
  intro E A H ls _ C X R hl
  have hl : lv_has ls 3 [(0, .ref h0), (1, .int v1), (2, .int v2)] := hl
  rw [f_X6_add] at hf
  refine x_aload_n 1 C dX6_add_0 hl 0 rfl rfl ?_
  refine x_get 4 C dX6_add_1 X kf_X6_43 0 rfl rfl rfl ?_
  refine x_if_lt 47 7 C dX6_add_4 rfl rfl hf (fun hf => ?_) (fun hf => ?_)
  · obtain rfl := Option.some.inj hf
    exact R _ _ _ _ X dX6_add_47
  refine x_aload_n 8 C dX6_add_7 hl 0 rfl rfl ?_
  refine x_get 11 C dX6_add_8 X kf_X6_43 0 rfl rfl rfl ?_
  refine x_sipush 14 C dX6_add_11 (320 : Int32) kv_sipush_320 rfl ?_
  refine x_icmp_ge 47 17 C dX6_add_14 rfl rfl hf (fun hf => ?_) (fun hf => ?_)
  · obtain rfl := Option.some.inj hf
    exact R _ _ _ _ X dX6_add_47
  refine x_aload_n 18 C dX6_add_17 hl 0 rfl rfl ?_
  refine x_get 21 C dX6_add_18 X kf_X6_11 0 rfl rfl rfl ?_
  refine x_aload_n 22 C dX6_add_21 hl 0 rfl rfl ?_
  refine x_get 25 C dX6_add_22 X kf_X6_43 0 rfl rfl rfl ?_
  refine x_iload_n 26 C dX6_add_25 hl 1 rfl rfl ?_
  refine x_iast 27 C dX6_add_26 X 1 rfl (w47_X6 T h0 h1 h2 h3 m_count (upd m_primeA (m_count).toNatClampNeg v1) m_primeB) rfl hf rfl (fun H locs X hf => ?_)
  refine x_aload_n 28 C dX6_add_27 hl 0 rfl rfl ?_
  refine x_get 31 C dX6_add_28 X kf_X6_15 0 rfl rfl rfl ?_
  refine x_aload_n 32 C dX6_add_31 hl 0 rfl rfl ?_
  refine x_get 35 C dX6_add_32 X kf_X6_43 0 rfl rfl rfl ?_
  refine x_iload_n 36 C dX6_add_35 hl 2 rfl rfl ?_
  refine x_iast 37 C dX6_add_36 X 2 rfl (w47_X6 T h0 h1 h2 h3 m_count (upd m_primeA (m_count).toNatClampNeg v1) (upd m_primeB (m_count).toNatClampNeg v2)) rfl hf rfl (fun H locs X hf => ?_)
  refine x_aload_n 38 C dX6_add_37 hl 0 rfl rfl ?_
  refine x_dup 39 C dX6_add_38 rfl rfl ?_
  refine x_get 42 C dX6_add_39 X kf_X6_43 0 rfl rfl rfl ?_
  refine x_iconst 43 C dX6_add_42 (1 : Int32) kv_iconst_1 rfl ?_
  refine x_iadd 44 C dX6_add_43 rfl ?_
  refine x_put 47 C dX6_add_44 X kp_X6_43 0 rfl rfl rfl rfl (w47_X6 T h0 h1 h2 h3 (m_count + (1 : Int32)) (upd m_primeA (m_count).toNatClampNeg v1) (upd m_primeB (m_count).toNatClampNeg v2)) rfl rfl (fun H locs X => ?_)
  obtain rfl := Option.some.inj hf
  exact R _ _ _ _ X dX6_add_47
set_option maxHeartbeats 4000000 in
set_option maxRecDepth 100000 in
theorem w_X6_find_99 {E : KE} {A : Nat → Prop} {D : va_G} {T : KT} (h0 h1 h2 h3 : Nat) (C : kx_C E cX6_find 3 none RX6 3 69 D T) (N : Nat) (x : Int32 × (Nat → Int32) × (Nat → Int32) × Int64 × Int64)  (R : kx_RV E cX6_find D A (w44_X6 T h0 h1 h2 h3 x.1 x.2.1 x.2.2.1 x.2.2.2.1 x.2.2.2.2)) (k12 : Int32 → Int32 → Int32 → (Nat → Int32) → (Nat → Int32) → Int64 → Int64 → Option (Int32 × (Nat → Int32) × (Nat → Int32) × Int64 × Int64)) (hk12 : ∀ (m_count : Int32) (m_primeA m_primeB : Nat → Int32) (m_found_a m_found_b : Int64) (v1 v2 : Int32) (H : Heap) (locs : List Loc) (ls : Array Slot), kx_H E D A H locs (w44_X6 T h0 h1 h2 h3 m_count m_primeA m_primeB m_found_a m_found_b) → lv_has ls 3 [(0, .ref h0), (1, .int v1), (2, .int v2)] → k12 v1 v2 m_count m_primeA m_primeB m_found_a m_found_b = some x → kx_W E H locs 12 ls []) : ∀ (m_count : Int32) (m_primeA m_primeB : Nat → Int32) (m_found_a m_found_b : Int64) (v1 v2 : Int32) (H : Heap) (locs : List Loc) (ls : Array Slot), kx_H E D A H locs (w44_X6 T h0 h1 h2 h3 m_count m_primeA m_primeB m_found_a m_found_b) → lv_has ls 3 [(0, .ref h0), (1, .int v1), (2, .int v2)] → f_X6_find_99 N k12 v1 v2 m_count m_primeA m_primeB m_found_a m_found_b = some x → kx_W E H locs 99 ls [] := by
  intro m_count m_primeA m_primeB m_found_a m_found_b v1 v2 H locs ls X hl hf
  rw [f_X6_find_99] at hf
  refine x_iload_n 100 C dX6_find_99 hl 1 rfl rfl ?_
  refine x_iload_n 101 C dX6_find_100 hl 1 rfl rfl ?_
  refine x_imul 102 C dX6_find_101 rfl ?_
  refine x_iload_n 103 C dX6_find_102 hl 2 rfl rfl ?_
  refine x_icmp_ne 126 106 C dX6_find_103 rfl rfl hf (fun hf => ?_) (fun hf => ?_)
  · refine x_iinc 129 C dX6_find_126 (1 : Int32) kv_iconst_1 [(2, .int (v2 + (1 : Int32))), (0, .ref h0), (1, .int v1)] hl 2 rfl rfl rfl rfl (fun ls hl => ?_)
    refine x_goto 12 C dX6_find_129 rfl ?_
    exact hk12 m_count m_primeA m_primeB m_found_a m_found_b v1 (v2 + (1 : Int32)) _ _ _ X (lv_sub hl [1, 2, 0] rfl) hf
  refine x_iload_n 107 C dX6_find_106 hl 1 rfl rfl ?_
  refine x_iconst 108 C dX6_find_107 (3 : Int32) kv_iconst_3 rfl ?_
  refine x_irem0 109 C dX6_find_108 kz_i_3 rfl ?_
  refine x_iconst 110 C dX6_find_109 (2 : Int32) kv_iconst_2 rfl ?_
  refine x_icmp_ne 126 113 C dX6_find_110 rfl rfl hf (fun hf => ?_) (fun hf => ?_)
  · refine x_iinc 129 C dX6_find_126 (1 : Int32) kv_iconst_1 [(2, .int (v2 + (1 : Int32))), (0, .ref h0), (1, .int v1)] hl 2 rfl rfl rfl rfl (fun ls hl => ?_)
    refine x_goto 12 C dX6_find_129 rfl ?_
    exact hk12 m_count m_primeA m_primeB m_found_a m_found_b v1 (v2 + (1 : Int32)) _ _ _ X (lv_sub hl [1, 2, 0] rfl) hf
  refine x_iload_n 114 C dX6_find_113 hl 1 rfl rfl ?_
  obtain ⟨y114, hy114, hf⟩ := kx_bind hf
  refine x_callSi 117 C dX6_find_114 X hl kl_X6_25 (c_X9_isPrime E.2.1 D T  N v1  y114 hy114) [] rfl rfl rfl rfl rfl cb_131 rfl (fun H locs X => ?_)
  refine x_if_eq 126 120 C dX6_find_117 rfl rfl hf (fun hf => ?_) (fun hf => ?_)
  · refine x_iinc 129 C dX6_find_126 (1 : Int32) kv_iconst_1 [(2, .int (v2 + (1 : Int32))), (0, .ref h0), (1, .int v1)] hl 2 rfl rfl rfl rfl (fun ls hl => ?_)
    refine x_goto 12 C dX6_find_129 rfl ?_
    exact hk12 m_count m_primeA m_primeB m_found_a m_found_b v1 (v2 + (1 : Int32)) _ _ _ X (lv_sub hl [1, 2, 0] rfl) hf
  refine x_aload_n 121 C dX6_find_120 hl 0 rfl rfl ?_
  refine x_iload_n 122 C dX6_find_121 hl 1 rfl rfl ?_
  refine x_iconst 123 C dX6_find_122 (0 : Int32) kv_iconst_0 rfl ?_
  obtain ⟨y123, hy123, hf⟩ := kx_bind hf
  refine x_callVv 126 C dX6_find_123 X hl kl_X6_58 (c_X6_add E.2.1 D T h0 h1 h2 h3 v1 (0 : Int32) m_count m_primeA m_primeB y123 hy123) rfl rfl [] rfl rfl rfl rfl rfl cb_132 rfl (fun H locs X => ?_)
  refine x_iinc 129 C dX6_find_126 (1 : Int32) kv_iconst_1 [(2, .int (v2 + (1 : Int32))), (0, .ref h0), (1, .int v1)] hl 2 rfl rfl rfl rfl (fun ls hl => ?_)
  refine x_goto 12 C dX6_find_129 rfl ?_
  exact hk12 y123.1 y123.2.1 y123.2.2 m_found_a m_found_b v1 (v2 + (1 : Int32)) _ _ _ X (lv_sub hl [1, 2, 0] rfl) hf
set_option maxHeartbeats 4000000 in
set_option maxRecDepth 100000 in
theorem w_X6_find_12 {E : KE} {A : Nat → Prop} {D : va_G} {T : KT} (h0 h1 h2 h3 : Nat) (C : kx_C E cX6_find 3 none RX6 3 69 D T) (N : Nat) (x : Int32 × (Nat → Int32) × (Nat → Int32) × Int64 × Int64)  (R : kx_RV E cX6_find D A (w44_X6 T h0 h1 h2 h3 x.1 x.2.1 x.2.2.1 x.2.2.2.1 x.2.2.2.2)) : ∀ (k : Nat), ∀ (m_count : Int32) (m_primeA m_primeB : Nat → Int32) (m_found_a m_found_b : Int64) (v1 v2 : Int32) (H : Heap) (locs : List Loc) (ls : Array Slot), kx_H E D A H locs (w44_X6 T h0 h1 h2 h3 m_count m_primeA m_primeB m_found_a m_found_b) → lv_has ls 3 [(0, .ref h0), (1, .int v1), (2, .int v2)] → f_X6_find_12 N k v1 v2 m_count m_primeA m_primeB m_found_a m_found_b = some x → kx_W E H locs 12 ls [] := by
  intro k
  induction k with
  | zero =>
    intro m_count m_primeA m_primeB m_found_a m_found_b v1 v2 H locs ls X hl hf
    cases (show (none : Option (Int32 × (Nat → Int32) × (Nat → Int32) × Int64 × Int64)) = some x from hf)
  | succ k ih =>
    intro m_count m_primeA m_primeB m_found_a m_found_b v1 v2 H locs ls X hl hf
    rw [f_X6_find_12] at hf
    refine x_iload_n 13 C dX6_find_12 hl 2 rfl rfl ?_
    refine x_sipush 16 C dX6_find_13 (2000 : Int32) kv_sipush_2000 rfl ?_
    refine x_icmp_gt 132 19 C dX6_find_16 rfl rfl hf (fun hf => ?_) (fun hf => ?_)
    · obtain rfl := Option.some.inj hf
      exact R _ _ _ _ X dX6_find_132
    refine x_iload_n 20 C dX6_find_19 hl 2 rfl rfl ?_
    refine x_iload_n 21 C dX6_find_20 hl 1 rfl rfl ?_
    obtain ⟨y21, hy21, hf⟩ := kx_bind hf
    refine x_callSi 24 C dX6_find_21 X hl kl_X6_31 (c_X9_rootFrom E.2.1 D T  N v2 v1  y21 hy21) [] rfl rfl rfl rfl rfl cb_131 rfl (fun H locs X => ?_)
    refine x_istore_n 25 C dX6_find_24 [(1, .int y21), (0, .ref h0), (2, .int v2)] hl rfl rfl rfl (fun ls hl => ?_)
    refine x_iload_n 26 C dX6_find_25 hl 2 rfl rfl ?_
    refine x_iconst 27 C dX6_find_26 (3 : Int32) kv_iconst_3 rfl ?_
    refine x_irem0 28 C dX6_find_27 kz_i_3 rfl ?_
    refine x_iconst 29 C dX6_find_28 (1 : Int32) kv_iconst_1 rfl ?_
    refine x_icmp_ne 99 32 C dX6_find_29 rfl rfl hf (fun hf => ?_) (fun hf => ?_)
    · exact w_X6_find_99 h0 h1 h2 h3 C N x  R (f_X6_find_12 N k) ih m_count m_primeA m_primeB m_found_a m_found_b y21 v2 _ _ _ X (lv_sub hl [1, 0, 2] rfl) hf
    refine x_iload_n 33 C dX6_find_32 hl 2 rfl rfl ?_
    obtain ⟨y33, hy33, hf⟩ := kx_bind hf
    refine x_callSi 36 C dX6_find_33 X hl kl_X6_25 (c_X9_isPrime E.2.1 D T  N v2  y33 hy33) [] rfl rfl rfl rfl rfl cb_131 rfl (fun H locs X => ?_)
    refine x_if_eq 99 39 C dX6_find_36 rfl rfl hf (fun hf => ?_) (fun hf => ?_)
    · exact w_X6_find_99 h0 h1 h2 h3 C N x  R (f_X6_find_12 N k) ih m_count m_primeA m_primeB m_found_a m_found_b y21 v2 _ _ _ X (lv_sub hl [1, 0, 2] rfl) hf
    refine x_iload_n 40 C dX6_find_39 hl 2 rfl rfl ?_
    refine x_aload_n 41 C dX6_find_40 hl 1 rfl rfl ?_
    refine x_get 44 C dX6_find_41 X kf_X6_21 0 rfl rfl rfl ?_
    obtain ⟨y44, hy44, hf⟩ := kx_bind hf
    refine x_callSv 47 C dX6_find_44 X hl kl_X6_47 (c_X6_splitInto E.2.1 D T h3 N v2 m_found_a m_found_b y44 hy44) [] rfl rfl rfl rfl rfl cb_133 rfl (fun H locs X => ?_)
    refine x_aload_n 48 C dX6_find_47 hl 1 rfl rfl ?_
    refine x_aload_n 49 C dX6_find_48 hl 1 rfl rfl ?_
    refine x_get 52 C dX6_find_49 X kf_X6_21 0 rfl rfl rfl ?_
    refine x_get 55 C dX6_find_52 X kf_X6_51 3 rfl rfl rfl ?_
    refine x_aload_n 56 C dX6_find_55 hl 1 rfl rfl ?_
    refine x_get 59 C dX6_find_56 X kf_X6_21 0 rfl rfl rfl ?_
    refine x_get 62 C dX6_find_59 X kf_X6_55 3 rfl rfl rfl ?_
    refine x_lsub 63 C dX6_find_62 rfl ?_
    refine x_l2i 64 C dX6_find_63 rfl ?_
    refine x_aload_n 65 C dX6_find_64 hl 1 rfl rfl ?_
    refine x_get 68 C dX6_find_65 X kf_X6_21 0 rfl rfl rfl ?_
    refine x_get 71 C dX6_find_68 X kf_X6_55 3 rfl rfl rfl ?_
    refine x_lneg 72 C dX6_find_71 rfl ?_
    refine x_l2i 73 C dX6_find_72 rfl ?_
    obtain ⟨y73, hy73, hf⟩ := kx_bind hf
    refine x_callVv 76 C dX6_find_73 X hl kl_X6_58 (c_X6_add E.2.1 D T h0 h1 h2 h3 ((y44.1 - y44.2)).toInt32 ((-y44.2)).toInt32 m_count m_primeA m_primeB y73 hy73) rfl rfl [] rfl rfl rfl rfl rfl cb_132 rfl (fun H locs X => ?_)
    refine x_aload_n 77 C dX6_find_76 hl 1 rfl rfl ?_
    refine x_aload_n 78 C dX6_find_77 hl 1 rfl rfl ?_
    refine x_get 81 C dX6_find_78 X kf_X6_21 0 rfl rfl rfl ?_
    refine x_get 84 C dX6_find_81 X kf_X6_51 3 rfl rfl rfl ?_
    refine x_l2i 85 C dX6_find_84 rfl ?_
    refine x_aload_n 86 C dX6_find_85 hl 1 rfl rfl ?_
    refine x_get 89 C dX6_find_86 X kf_X6_21 0 rfl rfl rfl ?_
    refine x_get 92 C dX6_find_89 X kf_X6_55 3 rfl rfl rfl ?_
    refine x_l2i 93 C dX6_find_92 rfl ?_
    obtain ⟨y93, hy93, hf⟩ := kx_bind hf
    refine x_callVv 96 C dX6_find_93 X hl kl_X6_58 (c_X6_add E.2.1 D T h0 h1 h2 h3 (y44.1).toInt32 (y44.2).toInt32 y73.1 y73.2.1 y73.2.2 y93 hy93) rfl rfl [] rfl rfl rfl rfl rfl cb_132 rfl (fun H locs X => ?_)
    refine x_goto 126 C dX6_find_96 rfl ?_
    refine x_iinc 129 C dX6_find_126 (1 : Int32) kv_iconst_1 [(2, .int (v2 + (1 : Int32))), (1, .int y21), (0, .ref h0)] hl 2 rfl rfl rfl rfl (fun ls hl => ?_)
    refine x_goto 12 C dX6_find_129 rfl ?_
    exact ih y93.1 y93.2.1 y93.2.2 y44.1 y44.2 y21 (v2 + (1 : Int32)) _ _ _ X (lv_sub hl [2, 1, 0] rfl) hf
set_option maxHeartbeats 4000000 in
set_option maxRecDepth 100000 in
theorem c_X6_find (l : Launch) (D : va_G) (T : KT) (h0 h1 h2 h3 : Nat) (N : Nat)  (m_count : Int32) (m_primeA m_primeB : Nat → Int32) (m_found_a m_found_b : Int64) (x : Int32 × (Nat → Int32) × (Nat → Int32) × Int64 × Int64) (hf : f_X6_find N m_count m_primeA m_primeB m_found_a m_found_b = some x) : kx_MV l yX6_find cX6_find 3 none 3 69 D T [.ref h0] (w44_X6 T h0 h1 h2 h3 m_count m_primeA m_primeB m_found_a m_found_b) (w44_X6 T h0 h1 h2 h3 x.1 x.2.1 x.2.2.1 x.2.2.2.1 x.2.2.2.2) := by
  refine kx_ofMV RX6 rfl (plainFor_of_name (x := yX6_find) kpn_X6) rfl ?_
  intro E A H ls _ C X R hl
  have hl : lv_has ls 3 [(0, .ref h0)] := hl
  rw [f_X6_find] at hf
  refine x_aload_n 1 C dX6_find_0 hl 0 rfl rfl ?_
  refine x_get 4 C dX6_find_1 X kf_X6_43 0 rfl rfl rfl ?_
  refine x_if_le 8 7 C dX6_find_4 rfl rfl hf (fun hf => ?_) (fun hf => ?_)
  · refine x_iconst 9 C dX6_find_8 (0 : Int32) kv_iconst_0 rfl ?_
    refine x_istore_n 10 C dX6_find_9 [(1, .int (0 : Int32)), (0, .ref h0)] hl rfl rfl rfl (fun ls hl => ?_)
    refine x_iconst 11 C dX6_find_10 (4 : Int32) kv_iconst_4 rfl ?_
    refine x_istore_n 12 C dX6_find_11 [(2, .int (4 : Int32)), (1, .int (0 : Int32)), (0, .ref h0)] hl rfl rfl rfl (fun ls hl => ?_)
    exact w_X6_find_12 h0 h1 h2 h3 C N x  R  N m_count m_primeA m_primeB m_found_a m_found_b (0 : Int32) (4 : Int32) _ _ _ X (lv_sub hl [2, 1, 0] rfl) hf
  obtain rfl := Option.some.inj hf
  exact R _ _ _ _ X dX6_find_7
set_option maxHeartbeats 4000000 in
set_option maxRecDepth 100000 in
theorem c_X6_load (l : Launch) (D : va_G) (T : KT) (h0 h1 h2 h3 h4 : Nat) (v1 : Int32) (m_count : Int32) (m_primeA m_primeB : Nat → Int32) (m_p2_a m_p2_b : Int64) (x : Int64 × Int64) (hf : f_X6_load v1 m_count m_primeA m_primeB m_p2_a m_p2_b = some x) : kx_MV l yX6_load cX6_load 3 none 1 24 D T [.ref h0, .int v1, .ref h4] (w46_X6 T h0 h1 h2 h3 h4 m_count m_primeA m_primeB m_p2_a m_p2_b) (w46_X6 T h0 h1 h2 h3 h4 m_count m_primeA m_primeB x.1 x.2) := by
  refine kx_ofMV RX6 rfl (plainFor_of_name (x := yX6_load) kpn_X6) rfl ?_
  intro E A H ls _ C X R hl
  have hl : lv_has ls 3 [(0, .ref h0), (1, .int v1), (2, .ref h4)] := hl
  rw [f_X6_load] at hf
  refine x_iload_n 1 C dX6_load_0 hl 1 rfl rfl ?_
  refine x_if_lt 37 4 C dX6_load_1 rfl rfl hf (fun hf => ?_) (fun hf => ?_)
  · obtain rfl := Option.some.inj hf
    exact R _ _ _ _ X dX6_load_37
  refine x_iload_n 5 C dX6_load_4 hl 1 rfl rfl ?_
  refine x_aload_n 6 C dX6_load_5 hl 0 rfl rfl ?_
  refine x_get 9 C dX6_load_6 X kf_X6_43 0 rfl rfl rfl ?_
  refine x_icmp_ge 37 12 C dX6_load_9 rfl rfl hf (fun hf => ?_) (fun hf => ?_)
  · obtain rfl := Option.some.inj hf
    exact R _ _ _ _ X dX6_load_37
  refine x_iload_n 13 C dX6_load_12 hl 1 rfl rfl ?_
  refine x_sipush 16 C dX6_load_13 (320 : Int32) kv_sipush_320 rfl ?_
  refine x_icmp_ge 37 19 C dX6_load_16 rfl rfl hf (fun hf => ?_) (fun hf => ?_)
  · obtain rfl := Option.some.inj hf
    exact R _ _ _ _ X dX6_load_37
  refine x_aload_n 20 C dX6_load_19 hl 2 rfl rfl ?_
  refine x_aload_n 21 C dX6_load_20 hl 0 rfl rfl ?_
  refine x_get 24 C dX6_load_21 X kf_X6_11 0 rfl rfl rfl ?_
  refine x_iload_n 25 C dX6_load_24 hl 1 rfl rfl ?_
  refine x_iald 26 C dX6_load_25 X 1 rfl hf rfl (fun hf => ?_)
  refine x_i2l 27 C dX6_load_26 rfl ?_
  refine x_aload_n 28 C dX6_load_27 hl 0 rfl rfl ?_
  refine x_get 31 C dX6_load_28 X kf_X6_15 0 rfl rfl rfl ?_
  refine x_iload_n 32 C dX6_load_31 hl 1 rfl rfl ?_
  refine x_iald 33 C dX6_load_32 X 2 rfl hf rfl (fun hf => ?_)
  refine x_i2l 34 C dX6_load_33 rfl ?_
  obtain ⟨y34, hy34, hf⟩ := kx_bind hf
  refine x_callVv 37 C dX6_load_34 X hl kl_X6_35 (c_X5_set E.2.1 D T h4 ((m_primeA (v1).toNatClampNeg)).toInt64 ((m_primeB (v1).toNatClampNeg)).toInt64 m_p2_a m_p2_b y34 hy34) rfl rfl [] rfl rfl rfl rfl rfl cb_134 rfl (fun H locs X => ?_)
  obtain rfl := Option.some.inj hf
  exact R _ _ _ _ X dX6_load_37
set_option maxHeartbeats 4000000 in
set_option maxRecDepth 100000 in
theorem c_X10_primeAt (l : Launch) (D : va_G) (T : KT) (h : Nat → Nat) (N : Nat) (v1 v2 : Int32) (m_drawers_full m_drawers_kept : Int32) (m_drawers_partA m_drawers_partB m_drawers_keptA m_drawers_keptB m_drawers_keptFull : Nat → Int32) (m_tape_size m_tape_plain m_tape_omegas m_tape_end m_tape_place m_tape_plainTold m_tape_omegasTold : Int32) (m_tape_bytes : Nat → Int32) (m_euclid_count : Int32) (m_euclid_last_a m_euclid_last_b m_euclid_lastOfFirst_a m_euclid_lastOfFirst_b m_euclid_lastOfSecond_a m_euclid_lastOfSecond_b m_euclid_next_a m_euclid_next_b m_euclid_nextOfFirst_a m_euclid_nextOfFirst_b m_euclid_nextOfSecond_a m_euclid_nextOfSecond_b m_euclid_q_a m_euclid_q_b : Int64) (m_euclid_quotientA m_euclid_quotientB : Nat → Int64) (m_modulus_step m_modulus_width m_modulus_slant m_modulus_square_a m_modulus_square_b : Int64) (m_factors_count m_factors_threes m_factors_unit : Int32) (m_factors_primeA m_factors_primeB m_factors_norms : Nat → Int64) (m_factors_euclid_count : Int32) (m_factors_euclid_last_a m_factors_euclid_last_b m_factors_euclid_lastOfFirst_a m_factors_euclid_lastOfFirst_b m_factors_euclid_lastOfSecond_a m_factors_euclid_lastOfSecond_b m_factors_euclid_next_a m_factors_euclid_next_b m_factors_euclid_nextOfFirst_a m_factors_euclid_nextOfFirst_b m_factors_euclid_nextOfSecond_a m_factors_euclid_nextOfSecond_b m_factors_euclid_q_a m_factors_euclid_q_b : Int64) (m_factors_euclid_quotientA m_factors_euclid_quotientB : Nat → Int64) (m_factors_left_a m_factors_left_b m_factors_found_a m_factors_found_b m_factors_product_a m_factors_product_b : Int64) (m_primes_count : Int32) (m_primes_primeA m_primes_primeB : Nat → Int32) (m_primes_found_a m_primes_found_b : Int64) (m_rings_foundA m_rings_foundB m_rings_all m_rings_mostOfOneRow m_letters_count : Int32) (m_letters_bytes : Nat → Int32) (m_one_a m_one_b m_two_a m_two_b m_three_a m_three_b m_four_a m_four_b m_out_a m_out_b m_spare_a m_spare_b : Int64) (m_marks : Nat → Int32) (x : Int32 × Int32 × (Nat → Int32) × (Nat → Int32) × Int64 × Int64 × Int64 × Int64) (hf : f_X10_primeAt N v1 v2 m_primes_count m_primes_primeA m_primes_primeB m_primes_found_a m_primes_found_b m_out_a m_out_b = some x) : kx_MI l yX10_primeAt cX10_primeAt 3 (some .int) 4 91 D T [.ref (h 0), .int v1, .int v2] (wC T h m_drawers_full m_drawers_kept m_drawers_partA m_drawers_partB m_drawers_keptA m_drawers_keptB m_drawers_keptFull m_tape_size m_tape_plain m_tape_omegas m_tape_end m_tape_place m_tape_plainTold m_tape_omegasTold m_tape_bytes m_euclid_count m_euclid_last_a m_euclid_last_b m_euclid_lastOfFirst_a m_euclid_lastOfFirst_b m_euclid_lastOfSecond_a m_euclid_lastOfSecond_b m_euclid_next_a m_euclid_next_b m_euclid_nextOfFirst_a m_euclid_nextOfFirst_b m_euclid_nextOfSecond_a m_euclid_nextOfSecond_b m_euclid_q_a m_euclid_q_b m_euclid_quotientA m_euclid_quotientB m_modulus_step m_modulus_width m_modulus_slant m_modulus_square_a m_modulus_square_b m_factors_count m_factors_threes m_factors_unit m_factors_primeA m_factors_primeB m_factors_norms m_factors_euclid_count m_factors_euclid_last_a m_factors_euclid_last_b m_factors_euclid_lastOfFirst_a m_factors_euclid_lastOfFirst_b m_factors_euclid_lastOfSecond_a m_factors_euclid_lastOfSecond_b m_factors_euclid_next_a m_factors_euclid_next_b m_factors_euclid_nextOfFirst_a m_factors_euclid_nextOfFirst_b m_factors_euclid_nextOfSecond_a m_factors_euclid_nextOfSecond_b m_factors_euclid_q_a m_factors_euclid_q_b m_factors_euclid_quotientA m_factors_euclid_quotientB m_factors_left_a m_factors_left_b m_factors_found_a m_factors_found_b m_factors_product_a m_factors_product_b m_primes_count m_primes_primeA m_primes_primeB m_primes_found_a m_primes_found_b m_rings_foundA m_rings_foundB m_rings_all m_rings_mostOfOneRow m_letters_count m_letters_bytes m_one_a m_one_b m_two_a m_two_b m_three_a m_three_b m_four_a m_four_b m_out_a m_out_b m_spare_a m_spare_b m_marks) (wC T h m_drawers_full m_drawers_kept m_drawers_partA m_drawers_partB m_drawers_keptA m_drawers_keptB m_drawers_keptFull m_tape_size m_tape_plain m_tape_omegas m_tape_end m_tape_place m_tape_plainTold m_tape_omegasTold m_tape_bytes m_euclid_count m_euclid_last_a m_euclid_last_b m_euclid_lastOfFirst_a m_euclid_lastOfFirst_b m_euclid_lastOfSecond_a m_euclid_lastOfSecond_b m_euclid_next_a m_euclid_next_b m_euclid_nextOfFirst_a m_euclid_nextOfFirst_b m_euclid_nextOfSecond_a m_euclid_nextOfSecond_b m_euclid_q_a m_euclid_q_b m_euclid_quotientA m_euclid_quotientB m_modulus_step m_modulus_width m_modulus_slant m_modulus_square_a m_modulus_square_b m_factors_count m_factors_threes m_factors_unit m_factors_primeA m_factors_primeB m_factors_norms m_factors_euclid_count m_factors_euclid_last_a m_factors_euclid_last_b m_factors_euclid_lastOfFirst_a m_factors_euclid_lastOfFirst_b m_factors_euclid_lastOfSecond_a m_factors_euclid_lastOfSecond_b m_factors_euclid_next_a m_factors_euclid_next_b m_factors_euclid_nextOfFirst_a m_factors_euclid_nextOfFirst_b m_factors_euclid_nextOfSecond_a m_factors_euclid_nextOfSecond_b m_factors_euclid_q_a m_factors_euclid_q_b m_factors_euclid_quotientA m_factors_euclid_quotientB m_factors_left_a m_factors_left_b m_factors_found_a m_factors_found_b m_factors_product_a m_factors_product_b x.2.1 x.2.2.1 x.2.2.2.1 x.2.2.2.2.1 x.2.2.2.2.2.1 m_rings_foundA m_rings_foundB m_rings_all m_rings_mostOfOneRow m_letters_count m_letters_bytes m_one_a m_one_b m_two_a m_two_b m_three_a m_three_b m_four_a m_four_b x.2.2.2.2.2.2.1 x.2.2.2.2.2.2.2 m_spare_a m_spare_b m_marks) x.1 := by
  refine kx_ofMI RX10 rfl (plainFor_of_name (x := yX10_primeAt) kpn_X10) rfl ?_
  intro E A H ls _ C X R hl
  have hl : lv_has ls 3 [(0, .ref (h 0)), (1, .int v1), (2, .int v2)] := hl
  rw [f_X10_primeAt] at hf
  refine x_iload_n 1 C dX10_primeAt_0 hl 1 rfl rfl ?_
  refine x_iconst 2 C dX10_primeAt_1 (-1 : Int32) kv_iconst_m1 rfl ?_
  refine x_icmp_ge 8 5 C dX10_primeAt_2 rfl rfl hf (fun hf => ?_) (fun hf => ?_)
  · refine x_aload_n 9 C dX10_primeAt_8 hl 0 rfl rfl ?_
    refine x_get 12 C dX10_primeAt_9 X kf_X10_49 0 rfl rfl rfl ?_
    obtain ⟨y12, hy12, hf⟩ := kx_bind hf
    refine x_callVv 15 C dX10_primeAt_12 X hl kl_X10_417 (c_X6_find E.2.1 D T (h 38) (h 39) (h 40) (h 41) N  m_primes_count m_primes_primeA m_primes_primeB m_primes_found_a m_primes_found_b y12 hy12) rfl rfl [] rfl rfl rfl rfl rfl cb_129 rfl (fun H locs X => ?_)
    refine x_iload_n 16 C dX10_primeAt_15 hl 1 rfl rfl ?_
    refine x_iconst 17 C dX10_primeAt_16 (-1 : Int32) kv_iconst_m1 rfl ?_
    refine x_icmp_ne 28 20 C dX10_primeAt_17 rfl rfl hf (fun hf => ?_) (fun hf => ?_)
    · refine x_iload_n 29 C dX10_primeAt_28 hl 1 rfl rfl ?_
      refine x_aload_n 30 C dX10_primeAt_29 hl 0 rfl rfl ?_
      refine x_get 33 C dX10_primeAt_30 X kf_X10_49 0 rfl rfl rfl ?_
      refine x_get 36 C dX10_primeAt_33 X kf_X10_420 38 rfl rfl rfl ?_
      refine x_icmp_ge 48 39 C dX10_primeAt_36 rfl rfl hf (fun hf => ?_) (fun hf => ?_)
      · refine x_ldc 50 C dX10_primeAt_48 (-2147483648 : Int32) kc_X10_140 rfl ?_
        obtain rfl := Option.some.inj hf
        exact R _ _ _ _ X dX10_primeAt_50
      refine x_iload_n 40 C dX10_primeAt_39 hl 2 rfl rfl ?_
      refine x_if_lt 48 43 C dX10_primeAt_40 rfl rfl hf (fun hf => ?_) (fun hf => ?_)
      · refine x_ldc 50 C dX10_primeAt_48 (-2147483648 : Int32) kc_X10_140 rfl ?_
        obtain rfl := Option.some.inj hf
        exact R _ _ _ _ X dX10_primeAt_50
      refine x_iload_n 44 C dX10_primeAt_43 hl 2 rfl rfl ?_
      refine x_iconst 45 C dX10_primeAt_44 (2 : Int32) kv_iconst_2 rfl ?_
      refine x_icmp_le 51 48 C dX10_primeAt_45 rfl rfl hf (fun hf => ?_) (fun hf => ?_)
      · refine x_aload_n 52 C dX10_primeAt_51 hl 0 rfl rfl ?_
        refine x_get 55 C dX10_primeAt_52 X kf_X10_49 0 rfl rfl rfl ?_
        refine x_iload_n 56 C dX10_primeAt_55 hl 1 rfl rfl ?_
        refine x_aload_n 57 C dX10_primeAt_56 hl 0 rfl rfl ?_
        refine x_get 60 C dX10_primeAt_57 X kf_X10_83 0 rfl rfl rfl ?_
        obtain ⟨y60, hy60, hf⟩ := kx_bind hf
        refine x_callVv 63 C dX10_primeAt_60 X hl kl_X10_421 (c_X6_load E.2.1 D T (h 38) (h 39) (h 40) (h 41) (h 49) v1 y12.1 y12.2.1 y12.2.2.1 m_out_a m_out_b y60 hy60) rfl rfl [] rfl rfl rfl rfl rfl cb_130 rfl (fun H locs X => ?_)
        refine x_aload_n 64 C dX10_primeAt_63 hl 0 rfl rfl ?_
        refine x_get 67 C dX10_primeAt_64 X kf_X10_83 0 rfl rfl rfl ?_
        refine x_iload_n 68 C dX10_primeAt_67 hl 2 rfl rfl ?_
        obtain ⟨y68, hy68, hf⟩ := kx_bind hf
        refine x_callSi 71 C dX10_primeAt_68 X hl kl_X10_241 (c_X10_partOrNorm E.2.1 D T (h 49) v2 y60.1 y60.2 y68 hy68) [] rfl rfl rfl rfl rfl cb_73 rfl (fun H locs X => ?_)
        obtain rfl := Option.some.inj hf
        exact R _ _ _ _ X dX10_primeAt_71
      refine x_ldc 50 C dX10_primeAt_48 (-2147483648 : Int32) kc_X10_140 rfl ?_
      obtain rfl := Option.some.inj hf
      exact R _ _ _ _ X dX10_primeAt_50
    refine x_aload_n 21 C dX10_primeAt_20 hl 0 rfl rfl ?_
    refine x_get 24 C dX10_primeAt_21 X kf_X10_49 0 rfl rfl rfl ?_
    refine x_get 27 C dX10_primeAt_24 X kf_X10_420 38 rfl rfl rfl ?_
    obtain rfl := Option.some.inj hf
    exact R _ _ _ _ X dX10_primeAt_27
  refine x_ldc 7 C dX10_primeAt_5 (-2147483648 : Int32) kc_X10_140 rfl ?_
  obtain rfl := Option.some.inj hf
  exact R _ _ _ _ X dX10_primeAt_7
set_option maxHeartbeats 4000000 in
set_option maxRecDepth 100000 in
theorem w_X11_primeAt_32 {E : KE} {A : Nat → Prop} {D : va_G} {T : KT} (h : Nat → Nat) (C : kx_C E cX11_primeAt 3 (some .int) RX11 2 46 D T) (x : Int32) (m_taped m_states : Int32) (m_ra m_rb : Int64) (m_threes m_primes m_ones m_unit : Int32) (m_allParts m_allNorms m_allClasses : Int64) (m_odd : Int32) (m_boxWide m_boxHigh m_boxStep : Int64) (m_partingMany : Int32) (m_qa m_qb m_la m_lb m_sa m_sb m_ta m_tb : Int64) (m_listed m_tells m_wanted m_found : Int32) (m_bits : Int64) (m_power2 m_rings m_ringA m_ringB m_seedNow : Int32) (m_tape m_has m_keptHas m_first m_second m_keptFirst m_keptSecond m_pa m_pb m_pNorm m_cubed m_isOpen m_signs m_often m_la0 m_lb0 : Nat → Int32) (R : kx_RI E cX11_primeAt D A (wM T h m_taped m_states m_ra m_rb m_threes m_primes m_ones m_unit m_allParts m_allNorms m_allClasses m_odd m_boxWide m_boxHigh m_boxStep m_partingMany m_qa m_qb m_la m_lb m_sa m_sb m_ta m_tb m_listed m_tells m_wanted m_found m_bits m_power2 m_rings m_ringA m_ringB m_seedNow m_tape m_has m_keptHas m_first m_second m_keptFirst m_keptSecond m_pa m_pb m_pNorm m_cubed m_isOpen m_signs m_often m_la0 m_lb0) x) : ∀  (v1 v2 : Int32) (H : Heap) (locs : List Loc) (ls : Array Slot), kx_H E D A H locs (wM T h m_taped m_states m_ra m_rb m_threes m_primes m_ones m_unit m_allParts m_allNorms m_allClasses m_odd m_boxWide m_boxHigh m_boxStep m_partingMany m_qa m_qb m_la m_lb m_sa m_sb m_ta m_tb m_listed m_tells m_wanted m_found m_bits m_power2 m_rings m_ringA m_ringB m_seedNow m_tape m_has m_keptHas m_first m_second m_keptFirst m_keptSecond m_pa m_pb m_pNorm m_cubed m_isOpen m_signs m_often m_la0 m_lb0) → lv_has ls 3 [(0, .ref (h 0)), (1, .int v1), (2, .int v2)] → f_X11_primeAt_32 v1 v2 m_listed m_la0 m_lb0 = some x → kx_W E H locs 32 ls [] := by
  intro v1 v2 H locs ls X hl hf
  rw [f_X11_primeAt_32] at hf
  refine x_iload_n 33 C dX11_primeAt_32 hl 1 rfl rfl ?_
  refine x_iconst 34 C dX11_primeAt_33 (-1 : Int32) kv_iconst_m1 rfl ?_
  refine x_icmp_ne 42 37 C dX11_primeAt_34 rfl rfl hf (fun hf => ?_) (fun hf => ?_)
  · refine x_iload_n 43 C dX11_primeAt_42 hl 2 rfl rfl ?_
    refine x_if_ne 55 46 C dX11_primeAt_43 rfl rfl hf (fun hf => ?_) (fun hf => ?_)
    · refine x_iload_n 56 C dX11_primeAt_55 hl 2 rfl rfl ?_
      refine x_iconst 57 C dX11_primeAt_56 (1 : Int32) kv_iconst_1 rfl ?_
      refine x_icmp_ne 69 60 C dX11_primeAt_57 rfl rfl hf (fun hf => ?_) (fun hf => ?_)
      · refine x_aload_n 70 C dX11_primeAt_69 hl 0 rfl rfl ?_
        refine x_get 73 C dX11_primeAt_70 X kf_X11_54 0 rfl rfl rfl ?_
        refine x_iload_n 74 C dX11_primeAt_73 hl 1 rfl rfl ?_
        refine x_iald 75 C dX11_primeAt_74 X 15 rfl hf rfl (fun hf => ?_)
        refine x_i2l 76 C dX11_primeAt_75 rfl ?_
        refine x_aload_n 77 C dX11_primeAt_76 hl 0 rfl rfl ?_
        refine x_get 80 C dX11_primeAt_77 X kf_X11_57 0 rfl rfl rfl ?_
        refine x_iload_n 81 C dX11_primeAt_80 hl 1 rfl rfl ?_
        refine x_iald 82 C dX11_primeAt_81 X 16 rfl hf rfl (fun hf => ?_)
        refine x_i2l 83 C dX11_primeAt_82 rfl ?_
        obtain ⟨y83, hy83, hf⟩ := kx_bind hf
        refine x_callSi 86 C dX11_primeAt_83 X hl kl_X11_160 (c_X11_normOf E.2.1 D T  ((m_la0 (v1).toNatClampNeg)).toInt64 ((m_lb0 (v1).toNatClampNeg)).toInt64  y83 hy83) [] rfl rfl rfl rfl rfl cb_7 rfl (fun H locs X => ?_)
        obtain rfl := Option.some.inj hf
        exact R _ _ _ _ X dX11_primeAt_86
      refine x_aload_n 61 C dX11_primeAt_60 hl 0 rfl rfl ?_
      refine x_get 64 C dX11_primeAt_61 X kf_X11_57 0 rfl rfl rfl ?_
      refine x_iload_n 65 C dX11_primeAt_64 hl 1 rfl rfl ?_
      refine x_iald 66 C dX11_primeAt_65 X 16 rfl hf rfl (fun hf => ?_)
      refine x_goto 86 C dX11_primeAt_66 rfl ?_
      obtain rfl := Option.some.inj hf
      exact R _ _ _ _ X dX11_primeAt_86
    refine x_aload_n 47 C dX11_primeAt_46 hl 0 rfl rfl ?_
    refine x_get 50 C dX11_primeAt_47 X kf_X11_54 0 rfl rfl rfl ?_
    refine x_iload_n 51 C dX11_primeAt_50 hl 1 rfl rfl ?_
    refine x_iald 52 C dX11_primeAt_51 X 15 rfl hf rfl (fun hf => ?_)
    refine x_goto 86 C dX11_primeAt_52 rfl ?_
    obtain rfl := Option.some.inj hf
    exact R _ _ _ _ X dX11_primeAt_86
  refine x_aload_n 38 C dX11_primeAt_37 hl 0 rfl rfl ?_
  refine x_get 41 C dX11_primeAt_38 X kf_X11_391 0 rfl rfl rfl ?_
  obtain rfl := Option.some.inj hf
  exact R _ _ _ _ X dX11_primeAt_41
set_option maxHeartbeats 4000000 in
set_option maxRecDepth 100000 in
theorem c_X11_primeAt (l : Launch) (D : va_G) (T : KT) (h : Nat → Nat) (v1 v2 : Int32) (m_taped m_states : Int32) (m_ra m_rb : Int64) (m_threes m_primes m_ones m_unit : Int32) (m_allParts m_allNorms m_allClasses : Int64) (m_odd : Int32) (m_boxWide m_boxHigh m_boxStep : Int64) (m_partingMany : Int32) (m_qa m_qb m_la m_lb m_sa m_sb m_ta m_tb : Int64) (m_listed m_tells m_wanted m_found : Int32) (m_bits : Int64) (m_power2 m_rings m_ringA m_ringB m_seedNow : Int32) (m_tape m_has m_keptHas m_first m_second m_keptFirst m_keptSecond m_pa m_pb m_pNorm m_cubed m_isOpen m_signs m_often m_la0 m_lb0 : Nat → Int32) (x : Int32) (hf : f_X11_primeAt v1 v2 m_listed m_la0 m_lb0 = some x) : kx_MI l yX11_primeAt cX11_primeAt 3 (some .int) 2 46 D T [.ref (h 0), .int v1, .int v2] (wM T h m_taped m_states m_ra m_rb m_threes m_primes m_ones m_unit m_allParts m_allNorms m_allClasses m_odd m_boxWide m_boxHigh m_boxStep m_partingMany m_qa m_qb m_la m_lb m_sa m_sb m_ta m_tb m_listed m_tells m_wanted m_found m_bits m_power2 m_rings m_ringA m_ringB m_seedNow m_tape m_has m_keptHas m_first m_second m_keptFirst m_keptSecond m_pa m_pb m_pNorm m_cubed m_isOpen m_signs m_often m_la0 m_lb0) (wM T h m_taped m_states m_ra m_rb m_threes m_primes m_ones m_unit m_allParts m_allNorms m_allClasses m_odd m_boxWide m_boxHigh m_boxStep m_partingMany m_qa m_qb m_la m_lb m_sa m_sb m_ta m_tb m_listed m_tells m_wanted m_found m_bits m_power2 m_rings m_ringA m_ringB m_seedNow m_tape m_has m_keptHas m_first m_second m_keptFirst m_keptSecond m_pa m_pb m_pNorm m_cubed m_isOpen m_signs m_often m_la0 m_lb0) x := by
  refine kx_ofMI RX11 rfl (plainFor_of_name (x := yX11_primeAt) kpn_X11) rfl ?_
  intro E A H ls _ C X R hl
  have hl : lv_has ls 3 [(0, .ref (h 0)), (1, .int v1), (2, .int v2)] := hl
  rw [f_X11_primeAt] at hf
  refine x_iload_n 1 C dX11_primeAt_0 hl 1 rfl rfl ?_
  refine x_iconst 2 C dX11_primeAt_1 (-1 : Int32) kv_iconst_m1 rfl ?_
  refine x_icmp_lt 29 5 C dX11_primeAt_2 rfl rfl hf (fun hf => ?_) (fun hf => ?_)
  · refine x_ldc 31 C dX11_primeAt_29 (-2147483648 : Int32) kc_X11_164 rfl ?_
    obtain rfl := Option.some.inj hf
    exact R _ _ _ _ X dX11_primeAt_31
  refine x_iload_n 6 C dX11_primeAt_5 hl 1 rfl rfl ?_
  refine x_aload_n 7 C dX11_primeAt_6 hl 0 rfl rfl ?_
  refine x_get 10 C dX11_primeAt_7 X kf_X11_391 0 rfl rfl rfl ?_
  refine x_icmp_ge 29 13 C dX11_primeAt_10 rfl rfl hf (fun hf => ?_) (fun hf => ?_)
  · refine x_ldc 31 C dX11_primeAt_29 (-2147483648 : Int32) kc_X11_164 rfl ?_
    obtain rfl := Option.some.inj hf
    exact R _ _ _ _ X dX11_primeAt_31
  refine x_iload_n 14 C dX11_primeAt_13 hl 1 rfl rfl ?_
  refine x_if_lt 32 17 C dX11_primeAt_14 rfl rfl hf (fun hf => ?_) (fun hf => ?_)
  · exact w_X11_primeAt_32 h C x m_taped m_states m_ra m_rb m_threes m_primes m_ones m_unit m_allParts m_allNorms m_allClasses m_odd m_boxWide m_boxHigh m_boxStep m_partingMany m_qa m_qb m_la m_lb m_sa m_sb m_ta m_tb m_listed m_tells m_wanted m_found m_bits m_power2 m_rings m_ringA m_ringB m_seedNow m_tape m_has m_keptHas m_first m_second m_keptFirst m_keptSecond m_pa m_pb m_pNorm m_cubed m_isOpen m_signs m_often m_la0 m_lb0 R  v1 v2 _ _ _ X (lv_sub hl [0, 1, 2] rfl) hf
  refine x_iload_n 18 C dX11_primeAt_17 hl 2 rfl rfl ?_
  refine x_i2l 19 C dX11_primeAt_18 rfl ?_
  refine x_lconst 20 C dX11_primeAt_19 (0 : Int64) kv_lconst_0 rfl ?_
  refine x_ldc2_w 23 C dX11_primeAt_20 (2 : Int64) kc_X11_119 rfl ?_
  obtain ⟨y23, hy23, hf⟩ := kx_bind hf
  refine x_callSi 26 C dX11_primeAt_23 X hl kl_X11_77 (c_X11_in E.2.1 D T  (v2).toInt64 (0 : Int64) (2 : Int64)  y23 hy23) [] rfl rfl rfl rfl rfl cb_7 rfl (fun H locs X => ?_)
  refine x_if_ne 32 29 C dX11_primeAt_26 rfl rfl hf (fun hf => ?_) (fun hf => ?_)
  · exact w_X11_primeAt_32 h C x m_taped m_states m_ra m_rb m_threes m_primes m_ones m_unit m_allParts m_allNorms m_allClasses m_odd m_boxWide m_boxHigh m_boxStep m_partingMany m_qa m_qb m_la m_lb m_sa m_sb m_ta m_tb m_listed m_tells m_wanted m_found m_bits m_power2 m_rings m_ringA m_ringB m_seedNow m_tape m_has m_keptHas m_first m_second m_keptFirst m_keptSecond m_pa m_pb m_pNorm m_cubed m_isOpen m_signs m_often m_la0 m_lb0 R  v1 v2 _ _ _ X (lv_sub hl [0, 1, 2] rfl) hf
  refine x_ldc 31 C dX11_primeAt_29 (-2147483648 : Int32) kc_X11_164 rfl ?_
  obtain rfl := Option.some.inj hf
  exact R _ _ _ _ X dX11_primeAt_31
set_option maxHeartbeats 4000000 in
set_option maxRecDepth 100000 in
theorem w_X10_crowd_68 {E : KE} {A : Nat → Prop} {D : va_G} {T : KT} (h : Nat → Nat) (C : kx_C E cX10_crowd 6 (some .int) RX10 4 114 D T) (N : Nat) (x : Int32 × Int64 × Int64 × Int64 × Int64 × Int64 × Int32 × (Nat → Int32) × (Nat → Int32) × Int64 × Int64 × Int64 × Int64 × Int64 × Int64 × Int64 × Int64 × Int64 × Int64) (m_drawers_full m_drawers_kept : Int32) (m_drawers_partA m_drawers_partB m_drawers_keptA m_drawers_keptB m_drawers_keptFull : Nat → Int32) (m_tape_size m_tape_plain m_tape_omegas m_tape_end m_tape_place m_tape_plainTold m_tape_omegasTold : Int32) (m_tape_bytes : Nat → Int32) (m_euclid_count : Int32) (m_euclid_last_a m_euclid_last_b m_euclid_lastOfFirst_a m_euclid_lastOfFirst_b m_euclid_lastOfSecond_a m_euclid_lastOfSecond_b m_euclid_next_a m_euclid_next_b m_euclid_nextOfFirst_a m_euclid_nextOfFirst_b m_euclid_nextOfSecond_a m_euclid_nextOfSecond_b m_euclid_q_a m_euclid_q_b : Int64) (m_euclid_quotientA m_euclid_quotientB : Nat → Int64) (m_factors_count m_factors_threes m_factors_unit : Int32) (m_factors_primeA m_factors_primeB m_factors_norms : Nat → Int64) (m_factors_euclid_count : Int32) (m_factors_euclid_last_a m_factors_euclid_last_b m_factors_euclid_lastOfFirst_a m_factors_euclid_lastOfFirst_b m_factors_euclid_lastOfSecond_a m_factors_euclid_lastOfSecond_b m_factors_euclid_next_a m_factors_euclid_next_b m_factors_euclid_nextOfFirst_a m_factors_euclid_nextOfFirst_b m_factors_euclid_nextOfSecond_a m_factors_euclid_nextOfSecond_b m_factors_euclid_q_a m_factors_euclid_q_b : Int64) (m_factors_euclid_quotientA m_factors_euclid_quotientB : Nat → Int64) (m_factors_left_a m_factors_left_b m_factors_found_a m_factors_found_b m_factors_product_a m_factors_product_b : Int64) (m_rings_foundA m_rings_foundB m_rings_all m_rings_mostOfOneRow m_letters_count : Int32) (m_letters_bytes : Nat → Int32) (m_three_a m_three_b m_spare_a m_spare_b : Int64) (m_marks : Nat → Int32) (R : kx_RI E cX10_crowd D A (wC T h m_drawers_full m_drawers_kept m_drawers_partA m_drawers_partB m_drawers_keptA m_drawers_keptB m_drawers_keptFull m_tape_size m_tape_plain m_tape_omegas m_tape_end m_tape_place m_tape_plainTold m_tape_omegasTold m_tape_bytes m_euclid_count m_euclid_last_a m_euclid_last_b m_euclid_lastOfFirst_a m_euclid_lastOfFirst_b m_euclid_lastOfSecond_a m_euclid_lastOfSecond_b m_euclid_next_a m_euclid_next_b m_euclid_nextOfFirst_a m_euclid_nextOfFirst_b m_euclid_nextOfSecond_a m_euclid_nextOfSecond_b m_euclid_q_a m_euclid_q_b m_euclid_quotientA m_euclid_quotientB x.2.1 x.2.2.1 x.2.2.2.1 x.2.2.2.2.1 x.2.2.2.2.2.1 m_factors_count m_factors_threes m_factors_unit m_factors_primeA m_factors_primeB m_factors_norms m_factors_euclid_count m_factors_euclid_last_a m_factors_euclid_last_b m_factors_euclid_lastOfFirst_a m_factors_euclid_lastOfFirst_b m_factors_euclid_lastOfSecond_a m_factors_euclid_lastOfSecond_b m_factors_euclid_next_a m_factors_euclid_next_b m_factors_euclid_nextOfFirst_a m_factors_euclid_nextOfFirst_b m_factors_euclid_nextOfSecond_a m_factors_euclid_nextOfSecond_b m_factors_euclid_q_a m_factors_euclid_q_b m_factors_euclid_quotientA m_factors_euclid_quotientB m_factors_left_a m_factors_left_b m_factors_found_a m_factors_found_b m_factors_product_a m_factors_product_b x.2.2.2.2.2.2.1 x.2.2.2.2.2.2.2.1 x.2.2.2.2.2.2.2.2.1 x.2.2.2.2.2.2.2.2.2.1 x.2.2.2.2.2.2.2.2.2.2.1 m_rings_foundA m_rings_foundB m_rings_all m_rings_mostOfOneRow m_letters_count m_letters_bytes x.2.2.2.2.2.2.2.2.2.2.2.1 x.2.2.2.2.2.2.2.2.2.2.2.2.1 x.2.2.2.2.2.2.2.2.2.2.2.2.2.1 x.2.2.2.2.2.2.2.2.2.2.2.2.2.2.1 m_three_a m_three_b x.2.2.2.2.2.2.2.2.2.2.2.2.2.2.2.1 x.2.2.2.2.2.2.2.2.2.2.2.2.2.2.2.2.1 x.2.2.2.2.2.2.2.2.2.2.2.2.2.2.2.2.2.1 x.2.2.2.2.2.2.2.2.2.2.2.2.2.2.2.2.2.2 m_spare_a m_spare_b m_marks) x.1) : ∀ (k : Nat), ∀ (m_modulus_step m_modulus_width m_modulus_slant m_modulus_square_a m_modulus_square_b : Int64) (m_primes_count : Int32) (m_primes_primeA m_primes_primeB : Nat → Int32) (m_primes_found_a m_primes_found_b m_one_a m_one_b m_two_a m_two_b m_four_a m_four_b m_out_a m_out_b : Int64) (v2 v3 v4 v5 : Int32) (H : Heap) (locs : List Loc) (ls : Array Slot), kx_H E D A H locs (wC T h m_drawers_full m_drawers_kept m_drawers_partA m_drawers_partB m_drawers_keptA m_drawers_keptB m_drawers_keptFull m_tape_size m_tape_plain m_tape_omegas m_tape_end m_tape_place m_tape_plainTold m_tape_omegasTold m_tape_bytes m_euclid_count m_euclid_last_a m_euclid_last_b m_euclid_lastOfFirst_a m_euclid_lastOfFirst_b m_euclid_lastOfSecond_a m_euclid_lastOfSecond_b m_euclid_next_a m_euclid_next_b m_euclid_nextOfFirst_a m_euclid_nextOfFirst_b m_euclid_nextOfSecond_a m_euclid_nextOfSecond_b m_euclid_q_a m_euclid_q_b m_euclid_quotientA m_euclid_quotientB m_modulus_step m_modulus_width m_modulus_slant m_modulus_square_a m_modulus_square_b m_factors_count m_factors_threes m_factors_unit m_factors_primeA m_factors_primeB m_factors_norms m_factors_euclid_count m_factors_euclid_last_a m_factors_euclid_last_b m_factors_euclid_lastOfFirst_a m_factors_euclid_lastOfFirst_b m_factors_euclid_lastOfSecond_a m_factors_euclid_lastOfSecond_b m_factors_euclid_next_a m_factors_euclid_next_b m_factors_euclid_nextOfFirst_a m_factors_euclid_nextOfFirst_b m_factors_euclid_nextOfSecond_a m_factors_euclid_nextOfSecond_b m_factors_euclid_q_a m_factors_euclid_q_b m_factors_euclid_quotientA m_factors_euclid_quotientB m_factors_left_a m_factors_left_b m_factors_found_a m_factors_found_b m_factors_product_a m_factors_product_b m_primes_count m_primes_primeA m_primes_primeB m_primes_found_a m_primes_found_b m_rings_foundA m_rings_foundB m_rings_all m_rings_mostOfOneRow m_letters_count m_letters_bytes m_one_a m_one_b m_two_a m_two_b m_three_a m_three_b m_four_a m_four_b m_out_a m_out_b m_spare_a m_spare_b m_marks) → lv_has ls 6 [(0, .ref (h 0)), (2, .int v2), (3, .int v3), (4, .int v4), (5, .int v5)] → f_X10_crowd_68 N k v2 v3 v4 v5 m_modulus_step m_modulus_width m_modulus_slant m_modulus_square_a m_modulus_square_b m_primes_count m_primes_primeA m_primes_primeB m_primes_found_a m_primes_found_b m_one_a m_one_b m_two_a m_two_b m_four_a m_four_b m_out_a m_out_b = some x → kx_W E H locs 68 ls [] := by
  intro k
  induction k with
  | zero =>
    intro m_modulus_step m_modulus_width m_modulus_slant m_modulus_square_a m_modulus_square_b m_primes_count m_primes_primeA m_primes_primeB m_primes_found_a m_primes_found_b m_one_a m_one_b m_two_a m_two_b m_four_a m_four_b m_out_a m_out_b v2 v3 v4 v5 H locs ls X hl hf
    cases (show (none : Option (Int32 × Int64 × Int64 × Int64 × Int64 × Int64 × Int32 × (Nat → Int32) × (Nat → Int32) × Int64 × Int64 × Int64 × Int64 × Int64 × Int64 × Int64 × Int64 × Int64 × Int64)) = some x from hf)
  | succ k ih =>
    intro m_modulus_step m_modulus_width m_modulus_slant m_modulus_square_a m_modulus_square_b m_primes_count m_primes_primeA m_primes_primeB m_primes_found_a m_primes_found_b m_one_a m_one_b m_two_a m_two_b m_four_a m_four_b m_out_a m_out_b v2 v3 v4 v5 H locs ls X hl hf
    rw [f_X10_crowd_68] at hf
    refine x_iload 70 C dX10_crowd_68 hl 4 rfl rfl ?_
    refine x_iload_n 71 C dX10_crowd_70 hl 1 rfl rfl ?_
    refine x_icmp_ge 112 74 C dX10_crowd_71 rfl rfl hf (fun hf => ?_) (fun hf => ?_)
    · refine x_iload 114 C dX10_crowd_112 hl 3 rfl rfl ?_
      obtain rfl := Option.some.inj hf
      exact R _ _ _ _ X dX10_crowd_114
    refine x_aload_n 75 C dX10_crowd_74 hl 0 rfl rfl ?_
    refine x_get 78 C dX10_crowd_75 X kf_X10_49 0 rfl rfl rfl ?_
    refine x_iload 80 C dX10_crowd_78 hl 4 rfl rfl ?_
    refine x_aload_n 81 C dX10_crowd_80 hl 0 rfl rfl ?_
    refine x_get 84 C dX10_crowd_81 X kf_X10_74 0 rfl rfl rfl ?_
    obtain ⟨y84, hy84, hf⟩ := kx_bind hf
    refine x_callVv 87 C dX10_crowd_84 X hl kl_X10_421 (c_X6_load E.2.1 D T (h 38) (h 39) (h 40) (h 41) (h 46) v5 m_primes_count m_primes_primeA m_primes_primeB m_two_a m_two_b y84 hy84) rfl rfl [] rfl rfl rfl rfl rfl cb_135 rfl (fun H locs X => ?_)
    refine x_aload_n 88 C dX10_crowd_87 hl 0 rfl rfl ?_
    refine x_aload_n 89 C dX10_crowd_88 hl 0 rfl rfl ?_
    refine x_get 92 C dX10_crowd_89 X kf_X10_70 0 rfl rfl rfl ?_
    refine x_aload_n 93 C dX10_crowd_92 hl 0 rfl rfl ?_
    refine x_get 96 C dX10_crowd_93 X kf_X10_74 0 rfl rfl rfl ?_
    obtain ⟨y96, hy96, hf⟩ := kx_bind hf
    refine x_callVi0 99 C dX10_crowd_96 X hl kl_X10_262 (c_X10_signByPrime_p1_one_p2_two E.2.1 D T h N  m_drawers_full m_drawers_kept m_drawers_partA m_drawers_partB m_drawers_keptA m_drawers_keptB m_drawers_keptFull m_tape_size m_tape_plain m_tape_omegas m_tape_end m_tape_place m_tape_plainTold m_tape_omegasTold m_tape_bytes m_euclid_count m_euclid_last_a m_euclid_last_b m_euclid_lastOfFirst_a m_euclid_lastOfFirst_b m_euclid_lastOfSecond_a m_euclid_lastOfSecond_b m_euclid_next_a m_euclid_next_b m_euclid_nextOfFirst_a m_euclid_nextOfFirst_b m_euclid_nextOfSecond_a m_euclid_nextOfSecond_b m_euclid_q_a m_euclid_q_b m_euclid_quotientA m_euclid_quotientB m_modulus_step m_modulus_width m_modulus_slant m_modulus_square_a m_modulus_square_b m_factors_count m_factors_threes m_factors_unit m_factors_primeA m_factors_primeB m_factors_norms m_factors_euclid_count m_factors_euclid_last_a m_factors_euclid_last_b m_factors_euclid_lastOfFirst_a m_factors_euclid_lastOfFirst_b m_factors_euclid_lastOfSecond_a m_factors_euclid_lastOfSecond_b m_factors_euclid_next_a m_factors_euclid_next_b m_factors_euclid_nextOfFirst_a m_factors_euclid_nextOfFirst_b m_factors_euclid_nextOfSecond_a m_factors_euclid_nextOfSecond_b m_factors_euclid_q_a m_factors_euclid_q_b m_factors_euclid_quotientA m_factors_euclid_quotientB m_factors_left_a m_factors_left_b m_factors_found_a m_factors_found_b m_factors_product_a m_factors_product_b m_primes_count m_primes_primeA m_primes_primeB m_primes_found_a m_primes_found_b m_rings_foundA m_rings_foundB m_rings_all m_rings_mostOfOneRow m_letters_count m_letters_bytes m_one_a m_one_b y84.1 y84.2 m_three_a m_three_b m_four_a m_four_b m_out_a m_out_b m_spare_a m_spare_b m_marks y96 hy96) rfl rfl [] rfl rfl rfl rfl rfl rfl (fun H locs X => ?_)
    refine x_iload_n 100 C dX10_crowd_99 hl 2 rfl rfl ?_
    refine x_icmp_ne 106 103 C dX10_crowd_100 rfl rfl hf (fun hf => ?_) (fun hf => ?_)
    · refine x_iinc 109 C dX10_crowd_106 (1 : Int32) kv_iconst_1 [(5, .int (v5 + (1 : Int32))), (0, .ref (h 0)), (2, .int v2), (3, .int v3), (4, .int v4)] hl 4 rfl rfl rfl rfl (fun ls hl => ?_)
      refine x_goto 68 C dX10_crowd_109 rfl ?_
      exact ih y96.2.1 y96.2.2.1 y96.2.2.2.1 y96.2.2.2.2.1 y96.2.2.2.2.2.1 m_primes_count m_primes_primeA m_primes_primeB m_primes_found_a m_primes_found_b m_one_a m_one_b y84.1 y84.2 y96.2.2.2.2.2.2.1 y96.2.2.2.2.2.2.2.1 y96.2.2.2.2.2.2.2.2.1 y96.2.2.2.2.2.2.2.2.2 v2 v3 v4 (v5 + (1 : Int32)) _ _ _ X (lv_sub hl [1, 2, 3, 4, 0] rfl) hf
    refine x_iinc 106 C dX10_crowd_103 (1 : Int32) kv_iconst_1 [(4, .int (v4 + (1 : Int32))), (0, .ref (h 0)), (2, .int v2), (3, .int v3), (5, .int v5)] hl 3 rfl rfl rfl rfl (fun ls hl => ?_)
    refine x_iinc 109 C dX10_crowd_106 (1 : Int32) kv_iconst_1 [(5, .int (v5 + (1 : Int32))), (4, .int (v4 + (1 : Int32))), (0, .ref (h 0)), (2, .int v2), (3, .int v3)] hl 4 rfl rfl rfl rfl (fun ls hl => ?_)
    refine x_goto 68 C dX10_crowd_109 rfl ?_
    exact ih y96.2.1 y96.2.2.1 y96.2.2.2.1 y96.2.2.2.2.1 y96.2.2.2.2.2.1 m_primes_count m_primes_primeA m_primes_primeB m_primes_found_a m_primes_found_b m_one_a m_one_b y84.1 y84.2 y96.2.2.2.2.2.2.1 y96.2.2.2.2.2.2.2.1 y96.2.2.2.2.2.2.2.2.1 y96.2.2.2.2.2.2.2.2.2 v2 v3 (v4 + (1 : Int32)) (v5 + (1 : Int32)) _ _ _ X (lv_sub hl [2, 3, 4, 1, 0] rfl) hf
set_option maxHeartbeats 4000000 in
set_option maxRecDepth 100000 in
theorem c_X10_crowd (l : Launch) (D : va_G) (T : KT) (h : Nat → Nat) (N : Nat) (v1 v2 v3 : Int32) (m_drawers_full m_drawers_kept : Int32) (m_drawers_partA m_drawers_partB m_drawers_keptA m_drawers_keptB m_drawers_keptFull : Nat → Int32) (m_tape_size m_tape_plain m_tape_omegas m_tape_end m_tape_place m_tape_plainTold m_tape_omegasTold : Int32) (m_tape_bytes : Nat → Int32) (m_euclid_count : Int32) (m_euclid_last_a m_euclid_last_b m_euclid_lastOfFirst_a m_euclid_lastOfFirst_b m_euclid_lastOfSecond_a m_euclid_lastOfSecond_b m_euclid_next_a m_euclid_next_b m_euclid_nextOfFirst_a m_euclid_nextOfFirst_b m_euclid_nextOfSecond_a m_euclid_nextOfSecond_b m_euclid_q_a m_euclid_q_b : Int64) (m_euclid_quotientA m_euclid_quotientB : Nat → Int64) (m_modulus_step m_modulus_width m_modulus_slant m_modulus_square_a m_modulus_square_b : Int64) (m_factors_count m_factors_threes m_factors_unit : Int32) (m_factors_primeA m_factors_primeB m_factors_norms : Nat → Int64) (m_factors_euclid_count : Int32) (m_factors_euclid_last_a m_factors_euclid_last_b m_factors_euclid_lastOfFirst_a m_factors_euclid_lastOfFirst_b m_factors_euclid_lastOfSecond_a m_factors_euclid_lastOfSecond_b m_factors_euclid_next_a m_factors_euclid_next_b m_factors_euclid_nextOfFirst_a m_factors_euclid_nextOfFirst_b m_factors_euclid_nextOfSecond_a m_factors_euclid_nextOfSecond_b m_factors_euclid_q_a m_factors_euclid_q_b : Int64) (m_factors_euclid_quotientA m_factors_euclid_quotientB : Nat → Int64) (m_factors_left_a m_factors_left_b m_factors_found_a m_factors_found_b m_factors_product_a m_factors_product_b : Int64) (m_primes_count : Int32) (m_primes_primeA m_primes_primeB : Nat → Int32) (m_primes_found_a m_primes_found_b : Int64) (m_rings_foundA m_rings_foundB m_rings_all m_rings_mostOfOneRow m_letters_count : Int32) (m_letters_bytes : Nat → Int32) (m_one_a m_one_b m_two_a m_two_b m_three_a m_three_b m_four_a m_four_b m_out_a m_out_b m_spare_a m_spare_b : Int64) (m_marks : Nat → Int32) (x : Int32 × Int64 × Int64 × Int64 × Int64 × Int64 × Int32 × (Nat → Int32) × (Nat → Int32) × Int64 × Int64 × Int64 × Int64 × Int64 × Int64 × Int64 × Int64 × Int64 × Int64) (hf : f_X10_crowd N v1 v2 v3 m_drawers_full m_drawers_partA m_drawers_partB m_modulus_step m_modulus_width m_modulus_slant m_modulus_square_a m_modulus_square_b m_primes_count m_primes_primeA m_primes_primeB m_primes_found_a m_primes_found_b m_one_a m_one_b m_two_a m_two_b m_four_a m_four_b m_out_a m_out_b = some x) : kx_MI l yX10_crowd cX10_crowd 6 (some .int) 4 114 D T [.ref (h 0), .int v1, .int v2, .int v3] (wC T h m_drawers_full m_drawers_kept m_drawers_partA m_drawers_partB m_drawers_keptA m_drawers_keptB m_drawers_keptFull m_tape_size m_tape_plain m_tape_omegas m_tape_end m_tape_place m_tape_plainTold m_tape_omegasTold m_tape_bytes m_euclid_count m_euclid_last_a m_euclid_last_b m_euclid_lastOfFirst_a m_euclid_lastOfFirst_b m_euclid_lastOfSecond_a m_euclid_lastOfSecond_b m_euclid_next_a m_euclid_next_b m_euclid_nextOfFirst_a m_euclid_nextOfFirst_b m_euclid_nextOfSecond_a m_euclid_nextOfSecond_b m_euclid_q_a m_euclid_q_b m_euclid_quotientA m_euclid_quotientB m_modulus_step m_modulus_width m_modulus_slant m_modulus_square_a m_modulus_square_b m_factors_count m_factors_threes m_factors_unit m_factors_primeA m_factors_primeB m_factors_norms m_factors_euclid_count m_factors_euclid_last_a m_factors_euclid_last_b m_factors_euclid_lastOfFirst_a m_factors_euclid_lastOfFirst_b m_factors_euclid_lastOfSecond_a m_factors_euclid_lastOfSecond_b m_factors_euclid_next_a m_factors_euclid_next_b m_factors_euclid_nextOfFirst_a m_factors_euclid_nextOfFirst_b m_factors_euclid_nextOfSecond_a m_factors_euclid_nextOfSecond_b m_factors_euclid_q_a m_factors_euclid_q_b m_factors_euclid_quotientA m_factors_euclid_quotientB m_factors_left_a m_factors_left_b m_factors_found_a m_factors_found_b m_factors_product_a m_factors_product_b m_primes_count m_primes_primeA m_primes_primeB m_primes_found_a m_primes_found_b m_rings_foundA m_rings_foundB m_rings_all m_rings_mostOfOneRow m_letters_count m_letters_bytes m_one_a m_one_b m_two_a m_two_b m_three_a m_three_b m_four_a m_four_b m_out_a m_out_b m_spare_a m_spare_b m_marks) (wC T h m_drawers_full m_drawers_kept m_drawers_partA m_drawers_partB m_drawers_keptA m_drawers_keptB m_drawers_keptFull m_tape_size m_tape_plain m_tape_omegas m_tape_end m_tape_place m_tape_plainTold m_tape_omegasTold m_tape_bytes m_euclid_count m_euclid_last_a m_euclid_last_b m_euclid_lastOfFirst_a m_euclid_lastOfFirst_b m_euclid_lastOfSecond_a m_euclid_lastOfSecond_b m_euclid_next_a m_euclid_next_b m_euclid_nextOfFirst_a m_euclid_nextOfFirst_b m_euclid_nextOfSecond_a m_euclid_nextOfSecond_b m_euclid_q_a m_euclid_q_b m_euclid_quotientA m_euclid_quotientB x.2.1 x.2.2.1 x.2.2.2.1 x.2.2.2.2.1 x.2.2.2.2.2.1 m_factors_count m_factors_threes m_factors_unit m_factors_primeA m_factors_primeB m_factors_norms m_factors_euclid_count m_factors_euclid_last_a m_factors_euclid_last_b m_factors_euclid_lastOfFirst_a m_factors_euclid_lastOfFirst_b m_factors_euclid_lastOfSecond_a m_factors_euclid_lastOfSecond_b m_factors_euclid_next_a m_factors_euclid_next_b m_factors_euclid_nextOfFirst_a m_factors_euclid_nextOfFirst_b m_factors_euclid_nextOfSecond_a m_factors_euclid_nextOfSecond_b m_factors_euclid_q_a m_factors_euclid_q_b m_factors_euclid_quotientA m_factors_euclid_quotientB m_factors_left_a m_factors_left_b m_factors_found_a m_factors_found_b m_factors_product_a m_factors_product_b x.2.2.2.2.2.2.1 x.2.2.2.2.2.2.2.1 x.2.2.2.2.2.2.2.2.1 x.2.2.2.2.2.2.2.2.2.1 x.2.2.2.2.2.2.2.2.2.2.1 m_rings_foundA m_rings_foundB m_rings_all m_rings_mostOfOneRow m_letters_count m_letters_bytes x.2.2.2.2.2.2.2.2.2.2.2.1 x.2.2.2.2.2.2.2.2.2.2.2.2.1 x.2.2.2.2.2.2.2.2.2.2.2.2.2.1 x.2.2.2.2.2.2.2.2.2.2.2.2.2.2.1 m_three_a m_three_b x.2.2.2.2.2.2.2.2.2.2.2.2.2.2.2.1 x.2.2.2.2.2.2.2.2.2.2.2.2.2.2.2.2.1 x.2.2.2.2.2.2.2.2.2.2.2.2.2.2.2.2.2.1 x.2.2.2.2.2.2.2.2.2.2.2.2.2.2.2.2.2.2 m_spare_a m_spare_b m_marks) x.1 := by
  refine kx_ofMI RX10 rfl (plainFor_of_name (x := yX10_crowd) kpn_X10) rfl ?_
  intro E A H ls _ C X R hl
  have hl : lv_has ls 6 [(0, .ref (h 0)), (1, .int v1), (2, .int v2), (3, .int v3)] := hl
  rw [f_X10_crowd] at hf
  refine x_iload_n 1 C dX10_crowd_0 hl 1 rfl rfl ?_
  obtain ⟨y1, hy1, hf⟩ := kx_bind hf
  refine x_callSi 4 C dX10_crowd_1 X hl kl_X10_105 (c_X0_isOne E.2.1 D T  v1  y1 hy1) [] rfl rfl rfl rfl rfl cb_2 rfl (fun H locs X => ?_)
  refine x_if_eq 27 7 C dX10_crowd_4 rfl rfl hf (fun hf => ?_) (fun hf => ?_)
  · refine x_iconst 28 C dX10_crowd_27 (-1 : Int32) kv_iconst_m1 rfl ?_
    obtain rfl := Option.some.inj hf
    exact R _ _ _ _ X dX10_crowd_28
  refine x_iload_n 8 C dX10_crowd_7 hl 2 rfl rfl ?_
  refine x_iconst 9 C dX10_crowd_8 (1 : Int32) kv_iconst_1 rfl ?_
  refine x_icmp_lt 27 12 C dX10_crowd_9 rfl rfl hf (fun hf => ?_) (fun hf => ?_)
  · refine x_iconst 28 C dX10_crowd_27 (-1 : Int32) kv_iconst_m1 rfl ?_
    obtain rfl := Option.some.inj hf
    exact R _ _ _ _ X dX10_crowd_28
  refine x_iload_n 13 C dX10_crowd_12 hl 2 rfl rfl ?_
  refine x_bipush 15 C dX10_crowd_13 (100 : Int32) kv_bipush_100 rfl ?_
  refine x_icmp_gt 27 18 C dX10_crowd_15 rfl rfl hf (fun hf => ?_) (fun hf => ?_)
  · refine x_iconst 28 C dX10_crowd_27 (-1 : Int32) kv_iconst_m1 rfl ?_
    obtain rfl := Option.some.inj hf
    exact R _ _ _ _ X dX10_crowd_28
  refine x_iload_n 19 C dX10_crowd_18 hl 3 rfl rfl ?_
  refine x_if_lt 27 22 C dX10_crowd_19 rfl rfl hf (fun hf => ?_) (fun hf => ?_)
  · refine x_iconst 28 C dX10_crowd_27 (-1 : Int32) kv_iconst_m1 rfl ?_
    obtain rfl := Option.some.inj hf
    exact R _ _ _ _ X dX10_crowd_28
  refine x_iload_n 23 C dX10_crowd_22 hl 3 rfl rfl ?_
  refine x_iconst 24 C dX10_crowd_23 (3 : Int32) kv_iconst_3 rfl ?_
  refine x_icmp_le 29 27 C dX10_crowd_24 rfl rfl hf (fun hf => ?_) (fun hf => ?_)
  · refine x_aload_n 30 C dX10_crowd_29 hl 0 rfl rfl ?_
    refine x_get 33 C dX10_crowd_30 X kf_X10_12 0 rfl rfl rfl ?_
    refine x_iload_n 34 C dX10_crowd_33 hl 1 rfl rfl ?_
    obtain ⟨y34, hy34, hf⟩ := kx_bind hf
    refine x_callVi 37 C dX10_crowd_34 X hl kl_X10_130 (c_X0_has E.2.1 D T (h 1) (h 2) (h 3) (h 4) (h 5) (h 6) v1 m_drawers_full m_drawers_kept y34 hy34) rfl rfl [] rfl rfl rfl rfl rfl cb_9 rfl (fun H locs X => ?_)
    refine x_if_ne 43 40 C dX10_crowd_37 rfl rfl hf (fun hf => ?_) (fun hf => ?_)
    · refine x_aload_n 44 C dX10_crowd_43 hl 0 rfl rfl ?_
      refine x_get 47 C dX10_crowd_44 X kf_X10_12 0 rfl rfl rfl ?_
      refine x_iload_n 48 C dX10_crowd_47 hl 1 rfl rfl ?_
      refine x_aload_n 49 C dX10_crowd_48 hl 0 rfl rfl ?_
      refine x_get 52 C dX10_crowd_49 X kf_X10_70 0 rfl rfl rfl ?_
      obtain ⟨y52, hy52, hf⟩ := kx_bind hf
      refine x_callVv 55 C dX10_crowd_52 X hl kl_X10_141 (c_X0_load E.2.1 D T (h 1) (h 2) (h 3) (h 4) (h 5) (h 6) (h 45) v1 m_drawers_full m_drawers_kept m_drawers_partA m_drawers_partB m_one_a m_one_b y52 hy52) rfl rfl [] rfl rfl rfl rfl rfl cb_11 rfl (fun H locs X => ?_)
      refine x_aload_n 56 C dX10_crowd_55 hl 0 rfl rfl ?_
      refine x_get 59 C dX10_crowd_56 X kf_X10_49 0 rfl rfl rfl ?_
      obtain ⟨y59, hy59, hf⟩ := kx_bind hf
      refine x_callVv 62 C dX10_crowd_59 X hl kl_X10_417 (c_X6_find E.2.1 D T (h 38) (h 39) (h 40) (h 41) N  m_primes_count m_primes_primeA m_primes_primeB m_primes_found_a m_primes_found_b y59 hy59) rfl rfl [] rfl rfl rfl rfl rfl cb_129 rfl (fun H locs X => ?_)
      refine x_iconst 63 C dX10_crowd_62 (0 : Int32) kv_iconst_0 rfl ?_
      refine x_istore 65 C dX10_crowd_63 [(4, .int (0 : Int32)), (0, .ref (h 0)), (1, .int v1), (2, .int v2), (3, .int v3)] hl rfl rfl rfl (fun ls hl => ?_)
      refine x_iconst 66 C dX10_crowd_65 (0 : Int32) kv_iconst_0 rfl ?_
      refine x_istore 68 C dX10_crowd_66 [(5, .int (0 : Int32)), (4, .int (0 : Int32)), (0, .ref (h 0)), (1, .int v1), (2, .int v2), (3, .int v3)] hl rfl rfl rfl (fun ls hl => ?_)
      exact w_X10_crowd_68 h C N x m_drawers_full m_drawers_kept m_drawers_partA m_drawers_partB m_drawers_keptA m_drawers_keptB m_drawers_keptFull m_tape_size m_tape_plain m_tape_omegas m_tape_end m_tape_place m_tape_plainTold m_tape_omegasTold m_tape_bytes m_euclid_count m_euclid_last_a m_euclid_last_b m_euclid_lastOfFirst_a m_euclid_lastOfFirst_b m_euclid_lastOfSecond_a m_euclid_lastOfSecond_b m_euclid_next_a m_euclid_next_b m_euclid_nextOfFirst_a m_euclid_nextOfFirst_b m_euclid_nextOfSecond_a m_euclid_nextOfSecond_b m_euclid_q_a m_euclid_q_b m_euclid_quotientA m_euclid_quotientB m_factors_count m_factors_threes m_factors_unit m_factors_primeA m_factors_primeB m_factors_norms m_factors_euclid_count m_factors_euclid_last_a m_factors_euclid_last_b m_factors_euclid_lastOfFirst_a m_factors_euclid_lastOfFirst_b m_factors_euclid_lastOfSecond_a m_factors_euclid_lastOfSecond_b m_factors_euclid_next_a m_factors_euclid_next_b m_factors_euclid_nextOfFirst_a m_factors_euclid_nextOfFirst_b m_factors_euclid_nextOfSecond_a m_factors_euclid_nextOfSecond_b m_factors_euclid_q_a m_factors_euclid_q_b m_factors_euclid_quotientA m_factors_euclid_quotientB m_factors_left_a m_factors_left_b m_factors_found_a m_factors_found_b m_factors_product_a m_factors_product_b m_rings_foundA m_rings_foundB m_rings_all m_rings_mostOfOneRow m_letters_count m_letters_bytes m_three_a m_three_b m_spare_a m_spare_b m_marks R  N m_modulus_step m_modulus_width m_modulus_slant m_modulus_square_a m_modulus_square_b y59.1 y59.2.1 y59.2.2.1 y59.2.2.2.1 y59.2.2.2.2 y52.1 y52.2 m_two_a m_two_b m_four_a m_four_b m_out_a m_out_b v2 v3 (0 : Int32) (0 : Int32) _ _ _ X (lv_sub hl [2, 4, 5, 1, 0] rfl) hf
    refine x_bipush 42 C dX10_crowd_40 (-2 : Int32) kv_bipush_m2 rfl ?_
    obtain rfl := Option.some.inj hf
    exact R _ _ _ _ X dX10_crowd_42
  refine x_iconst 28 C dX10_crowd_27 (-1 : Int32) kv_iconst_m1 rfl ?_
  obtain rfl := Option.some.inj hf
  exact R _ _ _ _ X dX10_crowd_28
set_option maxHeartbeats 4000000 in
set_option maxRecDepth 100000 in
theorem w_X11_crowd_51 {E : KE} {A : Nat → Prop} {D : va_G} {T : KT} (h : Nat → Nat) (C : kx_C E cX11_crowd 6 (some .int) RX11 6 171 D T) (N : Nat) (x : Int32 × Int64 × Int64 × Int64 × Int64 × Int64) (m_taped m_states m_threes m_primes m_ones m_unit : Int32) (m_allParts m_allNorms m_allClasses : Int64) (m_odd m_partingMany : Int32) (m_qa m_qb m_la m_lb m_sa m_sb m_ta m_tb : Int64) (m_listed m_tells m_wanted m_found : Int32) (m_bits : Int64) (m_power2 m_rings m_ringA m_ringB m_seedNow : Int32) (m_tape m_has m_keptHas m_first m_second m_keptFirst m_keptSecond m_pa m_pb m_pNorm m_cubed m_isOpen m_signs m_often m_la0 m_lb0 : Nat → Int32) (R : kx_RI E cX11_crowd D A (wM T h m_taped m_states x.2.1 x.2.2.1 m_threes m_primes m_ones m_unit m_allParts m_allNorms m_allClasses m_odd x.2.2.2.1 x.2.2.2.2.1 x.2.2.2.2.2 m_partingMany m_qa m_qb m_la m_lb m_sa m_sb m_ta m_tb m_listed m_tells m_wanted m_found m_bits m_power2 m_rings m_ringA m_ringB m_seedNow m_tape m_has m_keptHas m_first m_second m_keptFirst m_keptSecond m_pa m_pb m_pNorm m_cubed m_isOpen m_signs m_often m_la0 m_lb0) x.1) : ∀ (k : Nat), ∀ (m_ra m_rb m_boxWide m_boxHigh m_boxStep : Int64) (v1 v2 v3 v4 v5 : Int32) (H : Heap) (locs : List Loc) (ls : Array Slot), kx_H E D A H locs (wM T h m_taped m_states m_ra m_rb m_threes m_primes m_ones m_unit m_allParts m_allNorms m_allClasses m_odd m_boxWide m_boxHigh m_boxStep m_partingMany m_qa m_qb m_la m_lb m_sa m_sb m_ta m_tb m_listed m_tells m_wanted m_found m_bits m_power2 m_rings m_ringA m_ringB m_seedNow m_tape m_has m_keptHas m_first m_second m_keptFirst m_keptSecond m_pa m_pb m_pNorm m_cubed m_isOpen m_signs m_often m_la0 m_lb0) → lv_has ls 6 [(0, .ref (h 0)), (1, .int v1), (2, .int v2), (3, .int v3), (4, .int v4), (5, .int v5)] → f_X11_crowd_51 N k v1 v2 v3 v4 v5 m_ra m_rb m_boxWide m_boxHigh m_boxStep m_first m_second m_la0 m_lb0 = some x → kx_W E H locs 51 ls [] := by
  intro k
  induction k with
  | zero =>
    intro m_ra m_rb m_boxWide m_boxHigh m_boxStep v1 v2 v3 v4 v5 H locs ls X hl hf
    cases (show (none : Option (Int32 × Int64 × Int64 × Int64 × Int64 × Int64)) = some x from hf)
  | succ k ih =>
    intro m_ra m_rb m_boxWide m_boxHigh m_boxStep v1 v2 v3 v4 v5 H locs ls X hl hf
    rw [f_X11_crowd_51] at hf
    refine x_iload 53 C dX11_crowd_51 hl 5 rfl rfl ?_
    refine x_iload_n 54 C dX11_crowd_53 hl 2 rfl rfl ?_
    refine x_icmp_ge 111 57 C dX11_crowd_54 rfl rfl hf (fun hf => ?_) (fun hf => ?_)
    · refine x_iload 113 C dX11_crowd_111 hl 4 rfl rfl ?_
      obtain rfl := Option.some.inj hf
      exact R _ _ _ _ X dX11_crowd_113
    refine x_iload 59 C dX11_crowd_57 hl 4 rfl rfl ?_
    refine x_aload_n 60 C dX11_crowd_59 hl 0 rfl rfl ?_
    refine x_aload_n 61 C dX11_crowd_60 hl 0 rfl rfl ?_
    refine x_get 64 C dX11_crowd_61 X kf_X11_20 0 rfl rfl rfl ?_
    refine x_iload_n 65 C dX11_crowd_64 hl 1 rfl rfl ?_
    refine x_iald 66 C dX11_crowd_65 X 4 rfl hf rfl (fun hf => ?_)
    refine x_i2l 67 C dX11_crowd_66 rfl ?_
    refine x_aload_n 68 C dX11_crowd_67 hl 0 rfl rfl ?_
    refine x_get 71 C dX11_crowd_68 X kf_X11_24 0 rfl rfl rfl ?_
    refine x_iload_n 72 C dX11_crowd_71 hl 1 rfl rfl ?_
    refine x_iald 73 C dX11_crowd_72 X 5 rfl hf rfl (fun hf => ?_)
    refine x_i2l 74 C dX11_crowd_73 rfl ?_
    refine x_aload_n 75 C dX11_crowd_74 hl 0 rfl rfl ?_
    refine x_get 78 C dX11_crowd_75 X kf_X11_54 0 rfl rfl rfl ?_
    refine x_iload 80 C dX11_crowd_78 hl 5 rfl rfl ?_
    refine x_iald 81 C dX11_crowd_80 X 15 rfl hf rfl (fun hf => ?_)
    refine x_i2l 82 C dX11_crowd_81 rfl ?_
    refine x_aload_n 83 C dX11_crowd_82 hl 0 rfl rfl ?_
    refine x_get 86 C dX11_crowd_83 X kf_X11_57 0 rfl rfl rfl ?_
    refine x_iload 88 C dX11_crowd_86 hl 5 rfl rfl ?_
    refine x_iald 89 C dX11_crowd_88 X 16 rfl hf rfl (fun hf => ?_)
    refine x_i2l 90 C dX11_crowd_89 rfl ?_
    obtain ⟨y90, hy90, hf⟩ := kx_bind hf
    refine x_callVi0 93 C dX11_crowd_90 X hl kl_X11_349 (c_X11_signAt E.2.1 D T h N ((m_first (v1).toNatClampNeg)).toInt64 ((m_second (v1).toNatClampNeg)).toInt64 ((m_la0 (v5).toNatClampNeg)).toInt64 ((m_lb0 (v5).toNatClampNeg)).toInt64 m_taped m_states m_ra m_rb m_threes m_primes m_ones m_unit m_allParts m_allNorms m_allClasses m_odd m_boxWide m_boxHigh m_boxStep m_partingMany m_qa m_qb m_la m_lb m_sa m_sb m_ta m_tb m_listed m_tells m_wanted m_found m_bits m_power2 m_rings m_ringA m_ringB m_seedNow m_tape m_has m_keptHas m_first m_second m_keptFirst m_keptSecond m_pa m_pb m_pNorm m_cubed m_isOpen m_signs m_often m_la0 m_lb0 y90 hy90) rfl rfl [.int v4] rfl rfl rfl rfl rfl rfl (fun H locs X => ?_)
    refine x_iload_n 94 C dX11_crowd_93 hl 3 rfl rfl ?_
    refine x_icmp_ne 101 97 C dX11_crowd_94 rfl rfl hf (fun hf => ?_) (fun hf => ?_)
    · refine x_iconst 102 C dX11_crowd_101 (0 : Int32) kv_iconst_0 rfl ?_
      refine x_iadd 103 C dX11_crowd_102 rfl ?_
      refine x_istore 105 C dX11_crowd_103 [(4, .int (v4 + (0 : Int32))), (0, .ref (h 0)), (1, .int v1), (2, .int v2), (3, .int v3), (5, .int v5)] hl rfl rfl rfl (fun ls hl => ?_)
      refine x_iinc 108 C dX11_crowd_105 (1 : Int32) kv_iconst_1 [(5, .int (v5 + (1 : Int32))), (4, .int (v4 + (0 : Int32))), (0, .ref (h 0)), (1, .int v1), (2, .int v2), (3, .int v3)] hl 5 rfl rfl rfl rfl (fun ls hl => ?_)
      refine x_goto 51 C dX11_crowd_108 rfl ?_
      exact ih y90.2.1 y90.2.2.1 y90.2.2.2.1 y90.2.2.2.2.1 y90.2.2.2.2.2 v1 v2 v3 (v4 + (0 : Int32)) (v5 + (1 : Int32)) _ _ _ X (lv_sub hl [2, 3, 4, 5, 1, 0] rfl) hf
    refine x_iconst 98 C dX11_crowd_97 (1 : Int32) kv_iconst_1 rfl ?_
    refine x_goto 102 C dX11_crowd_98 rfl ?_
    refine x_iadd 103 C dX11_crowd_102 rfl ?_
    refine x_istore 105 C dX11_crowd_103 [(4, .int (v4 + (1 : Int32))), (0, .ref (h 0)), (1, .int v1), (2, .int v2), (3, .int v3), (5, .int v5)] hl rfl rfl rfl (fun ls hl => ?_)
    refine x_iinc 108 C dX11_crowd_105 (1 : Int32) kv_iconst_1 [(5, .int (v5 + (1 : Int32))), (4, .int (v4 + (1 : Int32))), (0, .ref (h 0)), (1, .int v1), (2, .int v2), (3, .int v3)] hl 5 rfl rfl rfl rfl (fun ls hl => ?_)
    refine x_goto 51 C dX11_crowd_108 rfl ?_
    exact ih y90.2.1 y90.2.2.1 y90.2.2.2.1 y90.2.2.2.2.1 y90.2.2.2.2.2 v1 v2 v3 (v4 + (1 : Int32)) (v5 + (1 : Int32)) _ _ _ X (lv_sub hl [2, 3, 4, 5, 1, 0] rfl) hf
set_option maxHeartbeats 4000000 in
set_option maxRecDepth 100000 in
theorem c_X11_crowd (l : Launch) (D : va_G) (T : KT) (h : Nat → Nat) (N : Nat) (v1 v2 v3 : Int32) (m_taped m_states : Int32) (m_ra m_rb : Int64) (m_threes m_primes m_ones m_unit : Int32) (m_allParts m_allNorms m_allClasses : Int64) (m_odd : Int32) (m_boxWide m_boxHigh m_boxStep : Int64) (m_partingMany : Int32) (m_qa m_qb m_la m_lb m_sa m_sb m_ta m_tb : Int64) (m_listed m_tells m_wanted m_found : Int32) (m_bits : Int64) (m_power2 m_rings m_ringA m_ringB m_seedNow : Int32) (m_tape m_has m_keptHas m_first m_second m_keptFirst m_keptSecond m_pa m_pb m_pNorm m_cubed m_isOpen m_signs m_often m_la0 m_lb0 : Nat → Int32) (x : Int32 × Int64 × Int64 × Int64 × Int64 × Int64) (hf : f_X11_crowd N v1 v2 v3 m_ra m_rb m_boxWide m_boxHigh m_boxStep m_has m_first m_second m_la0 m_lb0 = some x) : kx_MI l yX11_crowd cX11_crowd 6 (some .int) 6 171 D T [.ref (h 0), .int v1, .int v2, .int v3] (wM T h m_taped m_states m_ra m_rb m_threes m_primes m_ones m_unit m_allParts m_allNorms m_allClasses m_odd m_boxWide m_boxHigh m_boxStep m_partingMany m_qa m_qb m_la m_lb m_sa m_sb m_ta m_tb m_listed m_tells m_wanted m_found m_bits m_power2 m_rings m_ringA m_ringB m_seedNow m_tape m_has m_keptHas m_first m_second m_keptFirst m_keptSecond m_pa m_pb m_pNorm m_cubed m_isOpen m_signs m_often m_la0 m_lb0) (wM T h m_taped m_states x.2.1 x.2.2.1 m_threes m_primes m_ones m_unit m_allParts m_allNorms m_allClasses m_odd x.2.2.2.1 x.2.2.2.2.1 x.2.2.2.2.2 m_partingMany m_qa m_qb m_la m_lb m_sa m_sb m_ta m_tb m_listed m_tells m_wanted m_found m_bits m_power2 m_rings m_ringA m_ringB m_seedNow m_tape m_has m_keptHas m_first m_second m_keptFirst m_keptSecond m_pa m_pb m_pNorm m_cubed m_isOpen m_signs m_often m_la0 m_lb0) x.1 := by
  refine kx_ofMI RX11 rfl (plainFor_of_name (x := yX11_crowd) kpn_X11) rfl ?_
  intro E A H ls _ C X R hl
  have hl : lv_has ls 6 [(0, .ref (h 0)), (1, .int v1), (2, .int v2), (3, .int v3)] := hl
  rw [f_X11_crowd] at hf
  refine x_iload_n 1 C dX11_crowd_0 hl 1 rfl rfl ?_
  obtain ⟨y1, hy1, hf⟩ := kx_bind hf
  refine x_callSi 4 C dX11_crowd_1 X hl kl_X11_85 (c_X11_isDrawer E.2.1 D T  v1  y1 hy1) [] rfl rfl rfl rfl rfl cb_7 rfl (fun H locs X => ?_)
  refine x_if_eq 31 7 C dX11_crowd_4 rfl rfl hf (fun hf => ?_) (fun hf => ?_)
  · refine x_iconst 32 C dX11_crowd_31 (-1 : Int32) kv_iconst_m1 rfl ?_
    obtain rfl := Option.some.inj hf
    exact R _ _ _ _ X dX11_crowd_32
  refine x_iload_n 8 C dX11_crowd_7 hl 2 rfl rfl ?_
  refine x_i2l 9 C dX11_crowd_8 rfl ?_
  refine x_lconst 10 C dX11_crowd_9 (1 : Int64) kv_lconst_1 rfl ?_
  refine x_ldc2_w 13 C dX11_crowd_10 (100 : Int64) kc_X11_397 rfl ?_
  obtain ⟨y13, hy13, hf⟩ := kx_bind hf
  refine x_callSi 16 C dX11_crowd_13 X hl kl_X11_77 (c_X11_in E.2.1 D T  (v2).toInt64 (1 : Int64) (100 : Int64)  y13 hy13) [] rfl rfl rfl rfl rfl cb_7 rfl (fun H locs X => ?_)
  refine x_if_eq 31 19 C dX11_crowd_16 rfl rfl hf (fun hf => ?_) (fun hf => ?_)
  · refine x_iconst 32 C dX11_crowd_31 (-1 : Int32) kv_iconst_m1 rfl ?_
    obtain rfl := Option.some.inj hf
    exact R _ _ _ _ X dX11_crowd_32
  refine x_iload_n 20 C dX11_crowd_19 hl 3 rfl rfl ?_
  refine x_i2l 21 C dX11_crowd_20 rfl ?_
  refine x_lconst 22 C dX11_crowd_21 (0 : Int64) kv_lconst_0 rfl ?_
  refine x_ldc2_w 25 C dX11_crowd_22 (3 : Int64) kc_X11_134 rfl ?_
  obtain ⟨y25, hy25, hf⟩ := kx_bind hf
  refine x_callSi 28 C dX11_crowd_25 X hl kl_X11_77 (c_X11_in E.2.1 D T  (v3).toInt64 (0 : Int64) (3 : Int64)  y25 hy25) [] rfl rfl rfl rfl rfl cb_7 rfl (fun H locs X => ?_)
  refine x_if_ne 33 31 C dX11_crowd_28 rfl rfl hf (fun hf => ?_) (fun hf => ?_)
  · refine x_aload_n 34 C dX11_crowd_33 hl 0 rfl rfl ?_
    refine x_get 37 C dX11_crowd_34 X kf_X11_13 0 rfl rfl rfl ?_
    refine x_iload_n 38 C dX11_crowd_37 hl 1 rfl rfl ?_
    refine x_zald 39 C dX11_crowd_38 X 2 rfl hf rfl (fun hf => ?_)
    refine x_if_ne 45 42 C dX11_crowd_39 rfl rfl hf (fun hf => ?_) (fun hf => ?_)
    · refine x_iconst 46 C dX11_crowd_45 (0 : Int32) kv_iconst_0 rfl ?_
      refine x_istore 48 C dX11_crowd_46 [(4, .int (0 : Int32)), (0, .ref (h 0)), (1, .int v1), (2, .int v2), (3, .int v3)] hl rfl rfl rfl (fun ls hl => ?_)
      refine x_iconst 49 C dX11_crowd_48 (0 : Int32) kv_iconst_0 rfl ?_
      refine x_istore 51 C dX11_crowd_49 [(5, .int (0 : Int32)), (4, .int (0 : Int32)), (0, .ref (h 0)), (1, .int v1), (2, .int v2), (3, .int v3)] hl rfl rfl rfl (fun ls hl => ?_)
      exact w_X11_crowd_51 h C N x m_taped m_states m_threes m_primes m_ones m_unit m_allParts m_allNorms m_allClasses m_odd m_partingMany m_qa m_qb m_la m_lb m_sa m_sb m_ta m_tb m_listed m_tells m_wanted m_found m_bits m_power2 m_rings m_ringA m_ringB m_seedNow m_tape m_has m_keptHas m_first m_second m_keptFirst m_keptSecond m_pa m_pb m_pNorm m_cubed m_isOpen m_signs m_often m_la0 m_lb0 R  N m_ra m_rb m_boxWide m_boxHigh m_boxStep v1 v2 v3 (0 : Int32) (0 : Int32) _ _ _ X (lv_sub hl [2, 3, 4, 5, 1, 0] rfl) hf
    refine x_bipush 44 C dX11_crowd_42 (-2 : Int32) kv_bipush_m2 rfl ?_
    obtain rfl := Option.some.inj hf
    exact R _ _ _ _ X dX11_crowd_44
  refine x_iconst 32 C dX11_crowd_31 (-1 : Int32) kv_iconst_m1 rfl ?_
  obtain rfl := Option.some.inj hf
  exact R _ _ _ _ X dX11_crowd_32
set_option maxHeartbeats 4000000 in
set_option maxRecDepth 100000 in
theorem c_X3_add (l : Launch) (D : va_G) (T : KT) (h0 h1 : Nat) (v1 : Int32) (m_count : Int32) (m_bytes : Nat → Int32) (x : Int32 × (Nat → Int32)) (hf : f_X3_add v1 m_count m_bytes = some x) : kx_MV l yX3_add cX3_add 2 none 0 0 D T [.ref h0, .int v1] (w48_X3 T h0 h1 m_count m_bytes) (w48_X3 T h0 h1 x.1 x.2) := by
  refine kx_ofMV RX3 rfl (plainFor_of_name (x := yX3_add) kpn_X3) rfl ?_
  intro E A H ls _ C X R hl
  have hl : lv_has ls 2 [(0, .ref h0), (1, .int v1)] := hl
  rw [f_X3_add] at hf
  refine x_aload_n 1 C dX3_add_0 hl 0 rfl rfl ?_
  refine x_get 4 C dX3_add_1 X kf_X3_15 0 rfl rfl rfl ?_
  refine x_if_lt 36 7 C dX3_add_4 rfl rfl hf (fun hf => ?_) (fun hf => ?_)
  · obtain rfl := Option.some.inj hf
    exact R _ _ _ _ X dX3_add_36
  refine x_aload_n 8 C dX3_add_7 hl 0 rfl rfl ?_
  refine x_get 11 C dX3_add_8 X kf_X3_15 0 rfl rfl rfl ?_
  refine x_bipush 13 C dX3_add_11 (16 : Int32) kv_bipush_16 rfl ?_
  refine x_icmp_ge 36 16 C dX3_add_13 rfl rfl hf (fun hf => ?_) (fun hf => ?_)
  · obtain rfl := Option.some.inj hf
    exact R _ _ _ _ X dX3_add_36
  refine x_aload_n 17 C dX3_add_16 hl 0 rfl rfl ?_
  refine x_get 20 C dX3_add_17 X kf_X3_11 0 rfl rfl rfl ?_
  refine x_aload_n 21 C dX3_add_20 hl 0 rfl rfl ?_
  refine x_get 24 C dX3_add_21 X kf_X3_15 0 rfl rfl rfl ?_
  refine x_iload_n 25 C dX3_add_24 hl 1 rfl rfl ?_
  refine x_iast 26 C dX3_add_25 X 1 rfl (w48_X3 T h0 h1 m_count (upd m_bytes (m_count).toNatClampNeg v1)) rfl hf rfl (fun H locs X hf => ?_)
  refine x_aload_n 27 C dX3_add_26 hl 0 rfl rfl ?_
  refine x_dup 28 C dX3_add_27 rfl rfl ?_
  refine x_get 31 C dX3_add_28 X kf_X3_15 0 rfl rfl rfl ?_
  refine x_iconst 32 C dX3_add_31 (1 : Int32) kv_iconst_1 rfl ?_
  refine x_iadd 33 C dX3_add_32 rfl ?_
  refine x_put 36 C dX3_add_33 X kp_X3_15 0 rfl rfl rfl rfl (w48_X3 T h0 h1 (m_count + (1 : Int32)) (upd m_bytes (m_count).toNatClampNeg v1)) rfl rfl (fun H locs X => ?_)
  obtain rfl := Option.some.inj hf
  exact R _ _ _ _ X dX3_add_36
set_option maxHeartbeats 4000000 in
set_option maxRecDepth 100000 in
theorem c_J9_abs_0f7a4 (l : Launch) (D : va_G) (T : KT)  (v0 : Int32)  (x : Int32) (hf : f_J9_abs_0f7a4 v0 = some x) : kx_MI l yJ9_abs_0f7a4 cJ9_abs_0f7a4 1 (some .int) 0 0 D T [.int v0] (w4_ T  ) (w4_ T  ) x := by
  refine kx_ofMI RJ9 rfl (by decide +kernel) rfl ?_
  intro E A H ls _ C X R hl
  have hl : lv_has ls 1 [(0, .int v0)] := hl
  rw [f_J9_abs_0f7a4] at hf
  refine x_iload_n 1 C dJ9_abs_0f7a4_0 hl 0 rfl rfl ?_
  refine x_if_ge 9 4 C dJ9_abs_0f7a4_1 rfl rfl hf (fun hf => ?_) (fun hf => ?_)
  · refine x_iload_n 10 C dJ9_abs_0f7a4_9 hl 0 rfl rfl ?_
    obtain rfl := Option.some.inj hf
    exact R _ _ _ _ X dJ9_abs_0f7a4_10
  refine x_iload_n 5 C dJ9_abs_0f7a4_4 hl 0 rfl rfl ?_
  refine x_ineg 6 C dJ9_abs_0f7a4_5 rfl ?_
  refine x_goto 10 C dJ9_abs_0f7a4_6 rfl ?_
  obtain rfl := Option.some.inj hf
  exact R _ _ _ _ X dJ9_abs_0f7a4_10
set_option maxHeartbeats 4000000 in
set_option maxRecDepth 100000 in
theorem w_X3_addNumber_57 {E : KE} {A : Nat → Prop} {D : va_G} {T : KT} (h0 h1 : Nat) (C : kx_C E cX3_addNumber 6 none RX3 1 21 D T) (N : Nat) (x : Int32 × (Nat → Int32))  (R : kx_RV E cX3_addNumber D A (w48_X3 T h0 h1 x.1 x.2)) (k22 : Int32 → Int32 → Int32 → Int32 → (Nat → Int32) → Option (Int32 × (Nat → Int32))) (hk22 : ∀ (m_count : Int32) (m_bytes : Nat → Int32) (v2 v3 v4 : Int32) (H : Heap) (locs : List Loc) (ls : Array Slot), kx_H E D A H locs (w48_X3 T h0 h1 m_count m_bytes) → lv_has ls 6 [(0, .ref h0), (2, .int v2), (3, .int v3), (4, .int v4)] → k22 v2 v3 v4 m_count m_bytes = some x → kx_W E H locs 22 ls []) : ∀ (m_count : Int32) (m_bytes : Nat → Int32) (v2 v4 v5 s0 : Int32) (H : Heap) (locs : List Loc) (ls : Array Slot), kx_H E D A H locs (w48_X3 T h0 h1 m_count m_bytes) → lv_has ls 6 [(0, .ref h0), (2, .int v2), (4, .int v4), (5, .int v5)] → f_X3_addNumber_57 N k22 v2 v4 v5 s0 m_count m_bytes = some x → kx_W E H locs 57 ls [.int s0] := by
  intro m_count m_bytes v2 v4 v5 s0 H locs ls X hl hf
  rw [f_X3_addNumber_57] at hf
  refine x_istore_n 58 C dX3_addNumber_57 [(3, .int s0), (0, .ref h0), (2, .int v2), (4, .int v4), (5, .int v5)] hl rfl rfl rfl (fun ls hl => ?_)
  refine x_iload_n 59 C dX3_addNumber_58 hl 0 rfl rfl ?_
  refine x_if_eq 71 62 C dX3_addNumber_59 rfl rfl hf (fun hf => ?_) (fun hf => ?_)
  · refine x_iload 73 C dX3_addNumber_71 hl 3 rfl rfl ?_
    refine x_bipush 75 C dX3_addNumber_73 (10 : Int32) kv_bipush_10 rfl ?_
    refine x_idiv0 76 C dX3_addNumber_75 kz_i_10 rfl ?_
    refine x_istore 78 C dX3_addNumber_76 [(4, .int (v4 / (10 : Int32))), (3, .int s0), (0, .ref h0), (2, .int v2), (5, .int v5)] hl rfl rfl rfl (fun ls hl => ?_)
    refine x_goto 22 C dX3_addNumber_78 rfl ?_
    exact hk22 m_count m_bytes v2 s0 (v4 / (10 : Int32)) _ _ _ X (lv_sub hl [2, 3, 1, 0] rfl) hf
  refine x_aload_n 63 C dX3_addNumber_62 hl 1 rfl rfl ?_
  refine x_bipush 65 C dX3_addNumber_63 (48 : Int32) kv_bipush_48 rfl ?_
  refine x_iload 67 C dX3_addNumber_65 hl 4 rfl rfl ?_
  refine x_iadd 68 C dX3_addNumber_67 rfl ?_
  obtain ⟨y68, hy68, hf⟩ := kx_bind hf
  refine x_callVv0 71 C dX3_addNumber_68 X hl kl_X3_23 (c_X3_add E.2.1 D T h0 h1 ((48 : Int32) + v5) m_count m_bytes y68 hy68) rfl rfl [] rfl rfl rfl rfl rfl rfl (fun H locs X => ?_)
  refine x_iload 73 C dX3_addNumber_71 hl 3 rfl rfl ?_
  refine x_bipush 75 C dX3_addNumber_73 (10 : Int32) kv_bipush_10 rfl ?_
  refine x_idiv0 76 C dX3_addNumber_75 kz_i_10 rfl ?_
  refine x_istore 78 C dX3_addNumber_76 [(4, .int (v4 / (10 : Int32))), (3, .int s0), (0, .ref h0), (2, .int v2), (5, .int v5)] hl rfl rfl rfl (fun ls hl => ?_)
  refine x_goto 22 C dX3_addNumber_78 rfl ?_
  exact hk22 y68.1 y68.2 v2 s0 (v4 / (10 : Int32)) _ _ _ X (lv_sub hl [2, 3, 1, 0] rfl) hf
set_option maxHeartbeats 4000000 in
set_option maxRecDepth 100000 in
theorem w_X3_addNumber_22 {E : KE} {A : Nat → Prop} {D : va_G} {T : KT} (h0 h1 : Nat) (C : kx_C E cX3_addNumber 6 none RX3 1 21 D T) (N : Nat) (x : Int32 × (Nat → Int32))  (R : kx_RV E cX3_addNumber D A (w48_X3 T h0 h1 x.1 x.2)) : ∀ (k : Nat), ∀ (m_count : Int32) (m_bytes : Nat → Int32) (v2 v3 v4 : Int32) (H : Heap) (locs : List Loc) (ls : Array Slot), kx_H E D A H locs (w48_X3 T h0 h1 m_count m_bytes) → lv_has ls 6 [(0, .ref h0), (2, .int v2), (3, .int v3), (4, .int v4)] → f_X3_addNumber_22 N k v2 v3 v4 m_count m_bytes = some x → kx_W E H locs 22 ls [] := by
  intro k
  induction k with
  | zero =>
    intro m_count m_bytes v2 v3 v4 H locs ls X hl hf
    cases (show (none : Option (Int32 × (Nat → Int32))) = some x from hf)
  | succ k ih =>
    intro m_count m_bytes v2 v3 v4 H locs ls X hl hf
    rw [f_X3_addNumber_22] at hf
    refine x_iload 24 C dX3_addNumber_22 hl 3 rfl rfl ?_
    refine x_iconst 25 C dX3_addNumber_24 (1 : Int32) kv_iconst_1 rfl ?_
    refine x_icmp_lt 81 28 C dX3_addNumber_25 rfl rfl hf (fun hf => ?_) (fun hf => ?_)
    · obtain rfl := Option.some.inj hf
      exact R _ _ _ _ X dX3_addNumber_81
    refine x_iload_n 29 C dX3_addNumber_28 hl 1 rfl rfl ?_
    refine x_iload 31 C dX3_addNumber_29 hl 3 rfl rfl ?_
    refine x_idiv 32 C dX3_addNumber_31 hf rfl (fun hf => ?_)
    refine x_bipush 34 C dX3_addNumber_32 (10 : Int32) kv_bipush_10 rfl ?_
    refine x_irem0 35 C dX3_addNumber_34 kz_i_10 rfl ?_
    refine x_istore 37 C dX3_addNumber_35 [(5, .int ((v2 / v4) - (v2 / v4) / (10 : Int32) * (10 : Int32))), (0, .ref h0), (2, .int v2), (3, .int v3), (4, .int v4)] hl rfl rfl rfl (fun ls hl => ?_)
    refine x_iload_n 38 C dX3_addNumber_37 hl 3 rfl rfl ?_
    refine x_if_ne 52 41 C dX3_addNumber_38 rfl rfl hf (fun hf => ?_) (fun hf => ?_)
    · refine x_iconst 53 C dX3_addNumber_52 (1 : Int32) kv_iconst_1 rfl ?_
      refine x_goto 57 C dX3_addNumber_53 rfl ?_
      exact w_X3_addNumber_57 h0 h1 C N x  R (f_X3_addNumber_22 N k) ih m_count m_bytes v2 v4 ((v2 / v4) - (v2 / v4) / (10 : Int32) * (10 : Int32)) (1 : Int32) _ _ _ X (lv_sub hl [1, 2, 4, 0] rfl) hf
    refine x_iload 43 C dX3_addNumber_41 hl 0 rfl rfl ?_
    refine x_if_ne 52 46 C dX3_addNumber_43 rfl rfl hf (fun hf => ?_) (fun hf => ?_)
    · refine x_iconst 53 C dX3_addNumber_52 (1 : Int32) kv_iconst_1 rfl ?_
      refine x_goto 57 C dX3_addNumber_53 rfl ?_
      exact w_X3_addNumber_57 h0 h1 C N x  R (f_X3_addNumber_22 N k) ih m_count m_bytes v2 v4 ((v2 / v4) - (v2 / v4) / (10 : Int32) * (10 : Int32)) (1 : Int32) _ _ _ X (lv_sub hl [1, 2, 4, 0] rfl) hf
    refine x_iload 48 C dX3_addNumber_46 hl 4 rfl rfl ?_
    refine x_iconst 49 C dX3_addNumber_48 (1 : Int32) kv_iconst_1 rfl ?_
    refine x_icmp_ne 56 52 C dX3_addNumber_49 rfl rfl hf (fun hf => ?_) (fun hf => ?_)
    · refine x_iconst 57 C dX3_addNumber_56 (0 : Int32) kv_iconst_0 rfl ?_
      exact w_X3_addNumber_57 h0 h1 C N x  R (f_X3_addNumber_22 N k) ih m_count m_bytes v2 v4 ((v2 / v4) - (v2 / v4) / (10 : Int32) * (10 : Int32)) (0 : Int32) _ _ _ X (lv_sub hl [1, 2, 4, 0] rfl) hf
    refine x_iconst 53 C dX3_addNumber_52 (1 : Int32) kv_iconst_1 rfl ?_
    refine x_goto 57 C dX3_addNumber_53 rfl ?_
    exact w_X3_addNumber_57 h0 h1 C N x  R (f_X3_addNumber_22 N k) ih m_count m_bytes v2 v4 ((v2 / v4) - (v2 / v4) / (10 : Int32) * (10 : Int32)) (1 : Int32) _ _ _ X (lv_sub hl [1, 2, 4, 0] rfl) hf
set_option maxHeartbeats 4000000 in
set_option maxRecDepth 100000 in
theorem w_X3_addNumber_10 {E : KE} {A : Nat → Prop} {D : va_G} {T : KT} (h0 h1 : Nat) (C : kx_C E cX3_addNumber 6 none RX3 1 21 D T) (N : Nat) (x : Int32 × (Nat → Int32))  (R : kx_RV E cX3_addNumber D A (w48_X3 T h0 h1 x.1 x.2)) : ∀ (m_count : Int32) (m_bytes : Nat → Int32) (v1 : Int32) (H : Heap) (locs : List Loc) (ls : Array Slot), kx_H E D A H locs (w48_X3 T h0 h1 m_count m_bytes) → lv_has ls 6 [(0, .ref h0), (1, .int v1)] → f_X3_addNumber_10 N v1 m_count m_bytes = some x → kx_W E H locs 10 ls [] := by
  intro m_count m_bytes v1 H locs ls X hl hf
  rw [f_X3_addNumber_10] at hf
  refine x_iload_n 11 C dX3_addNumber_10 hl 1 rfl rfl ?_
  obtain ⟨y11, hy11, hf⟩ := kx_bind hf
  refine x_callSi 14 C dX3_addNumber_11 X hl kl_X3_26 (c_J9_abs_0f7a4 E.2.1 D T  v1  y11 hy11) [] rfl rfl rfl rfl rfl cb_137 rfl (fun H locs X => ?_)
  refine x_istore_n 15 C dX3_addNumber_14 [(2, .int y11), (0, .ref h0), (1, .int v1)] hl rfl rfl rfl (fun ls hl => ?_)
  refine x_iconst 16 C dX3_addNumber_15 (0 : Int32) kv_iconst_0 rfl ?_
  refine x_istore_n 17 C dX3_addNumber_16 [(3, .int (0 : Int32)), (2, .int y11), (0, .ref h0), (1, .int v1)] hl rfl rfl rfl (fun ls hl => ?_)
  refine x_sipush 20 C dX3_addNumber_17 (1000 : Int32) kv_sipush_1000 rfl ?_
  refine x_istore 22 C dX3_addNumber_20 [(4, .int (1000 : Int32)), (3, .int (0 : Int32)), (2, .int y11), (0, .ref h0), (1, .int v1)] hl rfl rfl rfl (fun ls hl => ?_)
  exact w_X3_addNumber_22 h0 h1 C N x  R  N m_count m_bytes y11 (0 : Int32) (1000 : Int32) _ _ _ X (lv_sub hl [3, 2, 1, 0] rfl) hf
set_option maxHeartbeats 4000000 in
set_option maxRecDepth 100000 in
theorem c_X3_addNumber (l : Launch) (D : va_G) (T : KT) (h0 h1 : Nat) (N : Nat) (v1 : Int32) (m_count : Int32) (m_bytes : Nat → Int32) (x : Int32 × (Nat → Int32)) (hf : f_X3_addNumber N v1 m_count m_bytes = some x) : kx_MV l yX3_addNumber cX3_addNumber 6 none 1 21 D T [.ref h0, .int v1] (w48_X3 T h0 h1 m_count m_bytes) (w48_X3 T h0 h1 x.1 x.2) := by
  refine kx_ofMV RX3 rfl (plainFor_of_name (x := yX3_addNumber) kpn_X3) rfl ?_
  intro E A H ls _ C X R hl
  have hl : lv_has ls 6 [(0, .ref h0), (1, .int v1)] := hl
  rw [f_X3_addNumber] at hf
  refine x_iload_n 1 C dX3_addNumber_0 hl 1 rfl rfl ?_
  refine x_if_ge 10 4 C dX3_addNumber_1 rfl rfl hf (fun hf => ?_) (fun hf => ?_)
  · exact w_X3_addNumber_10 h0 h1 C N x  R  m_count m_bytes v1 _ _ _ X (lv_sub hl [0, 1] rfl) hf
  refine x_aload_n 5 C dX3_addNumber_4 hl 0 rfl rfl ?_
  refine x_bipush 7 C dX3_addNumber_5 (45 : Int32) kv_bipush_45 rfl ?_
  obtain ⟨y7, hy7, hf⟩ := kx_bind hf
  refine x_callVv0 10 C dX3_addNumber_7 X hl kl_X3_23 (c_X3_add E.2.1 D T h0 h1 (45 : Int32) m_count m_bytes y7 hy7) rfl rfl [] rfl rfl rfl rfl rfl rfl (fun H locs X => ?_)
  exact w_X3_addNumber_10 h0 h1 C N x  R  y7.1 y7.2 v1 _ _ _ X (lv_sub hl [0, 1] rfl) hf
set_option maxHeartbeats 4000000 in
set_option maxRecDepth 100000 in
theorem w_X3_spellOut_37 {E : KE} {A : Nat → Prop} {D : va_G} {T : KT} (h0 h1 : Nat) (C : kx_C E cX3_spellOut 3 none RX3 2 46 D T) (N : Nat) (x : Int32 × (Nat → Int32))  (R : kx_RV E cX3_spellOut D A (w48_X3 T h0 h1 x.1 x.2)) : ∀ (m_count : Int32) (m_bytes : Nat → Int32) (v2 : Int32) (H : Heap) (locs : List Loc) (ls : Array Slot), kx_H E D A H locs (w48_X3 T h0 h1 m_count m_bytes) → lv_has ls 3 [(0, .ref h0), (2, .int v2)] → f_X3_spellOut_37 N v2 m_count m_bytes = some x → kx_W E H locs 37 ls [] := by
  intro m_count m_bytes v2 H locs ls X hl hf
  rw [f_X3_spellOut_37] at hf
  refine x_iload_n 38 C dX3_spellOut_37 hl 1 rfl rfl ?_
  refine x_iconst 39 C dX3_spellOut_38 (-1 : Int32) kv_iconst_m1 rfl ?_
  refine x_icmp_ne 51 42 C dX3_spellOut_39 rfl rfl hf (fun hf => ?_) (fun hf => ?_)
  · refine x_iload_n 52 C dX3_spellOut_51 hl 1 rfl rfl ?_
    refine x_iconst 53 C dX3_spellOut_52 (1 : Int32) kv_iconst_1 rfl ?_
    refine x_icmp_eq 61 56 C dX3_spellOut_53 rfl rfl hf (fun hf => ?_) (fun hf => ?_)
    · refine x_aload_n 62 C dX3_spellOut_61 hl 0 rfl rfl ?_
      refine x_bipush 64 C dX3_spellOut_62 (119 : Int32) kv_bipush_119 rfl ?_
      obtain ⟨y64, hy64, hf⟩ := kx_bind hf
      refine x_callVv0 67 C dX3_spellOut_64 X hl kl_X3_23 (c_X3_add E.2.1 D T h0 h1 (119 : Int32) m_count m_bytes y64 hy64) rfl rfl [] rfl rfl rfl rfl rfl rfl (fun H locs X => ?_)
      obtain rfl := Option.some.inj hf
      exact R _ _ _ _ X dX3_spellOut_67
    refine x_aload_n 57 C dX3_spellOut_56 hl 0 rfl rfl ?_
    refine x_iload_n 58 C dX3_spellOut_57 hl 1 rfl rfl ?_
    obtain ⟨y58, hy58, hf⟩ := kx_bind hf
    refine x_callVv0 61 C dX3_spellOut_58 X hl kl_X3_19 (c_X3_addNumber E.2.1 D T h0 h1 N v2 m_count m_bytes y58 hy58) rfl rfl [] rfl rfl rfl rfl rfl rfl (fun H locs X => ?_)
    refine x_aload_n 62 C dX3_spellOut_61 hl 0 rfl rfl ?_
    refine x_bipush 64 C dX3_spellOut_62 (119 : Int32) kv_bipush_119 rfl ?_
    obtain ⟨y64, hy64, hf⟩ := kx_bind hf
    refine x_callVv0 67 C dX3_spellOut_64 X hl kl_X3_23 (c_X3_add E.2.1 D T h0 h1 (119 : Int32) y58.1 y58.2 y64 hy64) rfl rfl [] rfl rfl rfl rfl rfl rfl (fun H locs X => ?_)
    obtain rfl := Option.some.inj hf
    exact R _ _ _ _ X dX3_spellOut_67
  refine x_aload_n 43 C dX3_spellOut_42 hl 0 rfl rfl ?_
  refine x_bipush 45 C dX3_spellOut_43 (45 : Int32) kv_bipush_45 rfl ?_
  obtain ⟨y45, hy45, hf⟩ := kx_bind hf
  refine x_callVv0 48 C dX3_spellOut_45 X hl kl_X3_23 (c_X3_add E.2.1 D T h0 h1 (45 : Int32) m_count m_bytes y45 hy45) rfl rfl [] rfl rfl rfl rfl rfl rfl (fun H locs X => ?_)
  refine x_goto 61 C dX3_spellOut_48 rfl ?_
  refine x_aload_n 62 C dX3_spellOut_61 hl 0 rfl rfl ?_
  refine x_bipush 64 C dX3_spellOut_62 (119 : Int32) kv_bipush_119 rfl ?_
  obtain ⟨y64, hy64, hf⟩ := kx_bind hf
  refine x_callVv0 67 C dX3_spellOut_64 X hl kl_X3_23 (c_X3_add E.2.1 D T h0 h1 (119 : Int32) y45.1 y45.2 y64 hy64) rfl rfl [] rfl rfl rfl rfl rfl rfl (fun H locs X => ?_)
  obtain rfl := Option.some.inj hf
  exact R _ _ _ _ X dX3_spellOut_67
set_option maxHeartbeats 4000000 in
set_option maxRecDepth 100000 in
theorem w_X3_spellOut_18 {E : KE} {A : Nat → Prop} {D : va_G} {T : KT} (h0 h1 : Nat) (C : kx_C E cX3_spellOut 3 none RX3 2 46 D T) (N : Nat) (x : Int32 × (Nat → Int32))  (R : kx_RV E cX3_spellOut D A (w48_X3 T h0 h1 x.1 x.2)) : ∀ (m_count : Int32) (m_bytes : Nat → Int32) (v1 v2 : Int32) (H : Heap) (locs : List Loc) (ls : Array Slot), kx_H E D A H locs (w48_X3 T h0 h1 m_count m_bytes) → lv_has ls 3 [(0, .ref h0), (1, .int v1), (2, .int v2)] → f_X3_spellOut_18 N v1 v2 m_count m_bytes = some x → kx_W E H locs 18 ls [] := by
  intro m_count m_bytes v1 v2 H locs ls X hl hf
  rw [f_X3_spellOut_18] at hf
  refine x_iload_n 19 C dX3_spellOut_18 hl 2 rfl rfl ?_
  refine x_if_ne 23 22 C dX3_spellOut_19 rfl rfl hf (fun hf => ?_) (fun hf => ?_)
  · refine x_iload_n 24 C dX3_spellOut_23 hl 2 rfl rfl ?_
    refine x_if_le 37 27 C dX3_spellOut_24 rfl rfl hf (fun hf => ?_) (fun hf => ?_)
    · exact w_X3_spellOut_37 h0 h1 C N x  R  m_count m_bytes v2 _ _ _ X (lv_sub hl [0, 2] rfl) hf
    refine x_iload_n 28 C dX3_spellOut_27 hl 1 rfl rfl ?_
    refine x_if_eq 37 31 C dX3_spellOut_28 rfl rfl hf (fun hf => ?_) (fun hf => ?_)
    · exact w_X3_spellOut_37 h0 h1 C N x  R  m_count m_bytes v2 _ _ _ X (lv_sub hl [0, 2] rfl) hf
    refine x_aload_n 32 C dX3_spellOut_31 hl 0 rfl rfl ?_
    refine x_bipush 34 C dX3_spellOut_32 (43 : Int32) kv_bipush_43 rfl ?_
    obtain ⟨y34, hy34, hf⟩ := kx_bind hf
    refine x_callVv0 37 C dX3_spellOut_34 X hl kl_X3_23 (c_X3_add E.2.1 D T h0 h1 (43 : Int32) m_count m_bytes y34 hy34) rfl rfl [] rfl rfl rfl rfl rfl rfl (fun H locs X => ?_)
    exact w_X3_spellOut_37 h0 h1 C N x  R  y34.1 y34.2 v2 _ _ _ X (lv_sub hl [0, 2] rfl) hf
  obtain rfl := Option.some.inj hf
  exact R _ _ _ _ X dX3_spellOut_22
set_option maxHeartbeats 4000000 in
set_option maxRecDepth 100000 in
theorem c_X3_spellOut (l : Launch) (D : va_G) (T : KT) (h0 h1 : Nat) (N : Nat) (v1 v2 : Int32) (m_count : Int32) (m_bytes : Nat → Int32) (x : Int32 × (Nat → Int32)) (hf : f_X3_spellOut N v1 v2 m_bytes = some x) : kx_MV l yX3_spellOut cX3_spellOut 3 none 2 46 D T [.ref h0, .int v1, .int v2] (w48_X3 T h0 h1 m_count m_bytes) (w48_X3 T h0 h1 x.1 x.2) := by
  refine kx_ofMV RX3 rfl (plainFor_of_name (x := yX3_spellOut) kpn_X3) rfl ?_
  intro E A H ls _ C X R hl
  have hl : lv_has ls 3 [(0, .ref h0), (1, .int v1), (2, .int v2)] := hl
  rw [f_X3_spellOut] at hf
  refine x_aload_n 1 C dX3_spellOut_0 hl 0 rfl rfl ?_
  refine x_iconst 2 C dX3_spellOut_1 (0 : Int32) kv_iconst_0 rfl ?_
  refine x_put 5 C dX3_spellOut_2 X kp_X3_15 0 rfl rfl rfl rfl (w48_X3 T h0 h1 (0 : Int32) m_bytes) rfl rfl (fun H locs X => ?_)
  refine x_iload_n 6 C dX3_spellOut_5 hl 1 rfl rfl ?_
  refine x_if_ne 13 9 C dX3_spellOut_6 rfl rfl hf (fun hf => ?_) (fun hf => ?_)
  · refine x_aload_n 14 C dX3_spellOut_13 hl 0 rfl rfl ?_
    refine x_iload_n 15 C dX3_spellOut_14 hl 1 rfl rfl ?_
    obtain ⟨y15, hy15, hf⟩ := kx_bind hf
    refine x_callVv0 18 C dX3_spellOut_15 X hl kl_X3_19 (c_X3_addNumber E.2.1 D T h0 h1 N v1 (0 : Int32) m_bytes y15 hy15) rfl rfl [] rfl rfl rfl rfl rfl rfl (fun H locs X => ?_)
    exact w_X3_spellOut_18 h0 h1 C N x  R  y15.1 y15.2 v1 v2 _ _ _ X (lv_sub hl [0, 1, 2] rfl) hf
  refine x_iload_n 10 C dX3_spellOut_9 hl 2 rfl rfl ?_
  refine x_if_ne 18 13 C dX3_spellOut_10 rfl rfl hf (fun hf => ?_) (fun hf => ?_)
  · exact w_X3_spellOut_18 h0 h1 C N x  R  (0 : Int32) m_bytes v1 v2 _ _ _ X (lv_sub hl [0, 1, 2] rfl) hf
  refine x_aload_n 14 C dX3_spellOut_13 hl 0 rfl rfl ?_
  refine x_iload_n 15 C dX3_spellOut_14 hl 1 rfl rfl ?_
  obtain ⟨y15, hy15, hf⟩ := kx_bind hf
  refine x_callVv0 18 C dX3_spellOut_15 X hl kl_X3_19 (c_X3_addNumber E.2.1 D T h0 h1 N v1 (0 : Int32) m_bytes y15 hy15) rfl rfl [] rfl rfl rfl rfl rfl rfl (fun H locs X => ?_)
  exact w_X3_spellOut_18 h0 h1 C N x  R  y15.1 y15.2 v1 v2 _ _ _ X (lv_sub hl [0, 1, 2] rfl) hf
