set_option maxHeartbeats 4000000 in
set_option maxRecDepth 100000 in
theorem c_X3_at (l : Launch) (D : va_G) (T : KT) (h0 h1 : Nat) (v1 : Int32) (m_count : Int32) (m_bytes : Nat → Int32) (x : Int32) (hf : f_X3_at v1 m_count m_bytes = some x) : kx_MI l yX3_at cX3_at 2 (some .int) 0 0 D T [.ref h0, .int v1] (w48_X3 T h0 h1 m_count m_bytes) (w48_X3 T h0 h1 m_count m_bytes) x := by
  refine kx_ofMI RX3 rfl (plainFor_of_name (x := yX3_at) kpn_X3) rfl ?_
  intro E A H ls _ C X R hl
  have hl : lv_has ls 2 [(0, .ref h0), (1, .int v1)] := hl
  rw [f_X3_at] at hf
  refine x_iload_n 1 C dX3_at_0 hl 1 rfl rfl ?_
  refine x_if_lt 27 4 C dX3_at_1 rfl rfl hf (fun hf => ?_) (fun hf => ?_)
  · refine x_iconst 28 C dX3_at_27 (-1 : Int32) kv_iconst_m1 rfl ?_
    obtain rfl := Option.some.inj hf
    exact R _ _ _ _ X dX3_at_28
  refine x_iload_n 5 C dX3_at_4 hl 1 rfl rfl ?_
  refine x_aload_n 6 C dX3_at_5 hl 0 rfl rfl ?_
  refine x_get 9 C dX3_at_6 X kf_X3_15 0 rfl rfl rfl ?_
  refine x_icmp_ge 27 12 C dX3_at_9 rfl rfl hf (fun hf => ?_) (fun hf => ?_)
  · refine x_iconst 28 C dX3_at_27 (-1 : Int32) kv_iconst_m1 rfl ?_
    obtain rfl := Option.some.inj hf
    exact R _ _ _ _ X dX3_at_28
  refine x_iload_n 13 C dX3_at_12 hl 1 rfl rfl ?_
  refine x_bipush 15 C dX3_at_13 (16 : Int32) kv_bipush_16 rfl ?_
  refine x_icmp_ge 27 18 C dX3_at_15 rfl rfl hf (fun hf => ?_) (fun hf => ?_)
  · refine x_iconst 28 C dX3_at_27 (-1 : Int32) kv_iconst_m1 rfl ?_
    obtain rfl := Option.some.inj hf
    exact R _ _ _ _ X dX3_at_28
  refine x_aload_n 19 C dX3_at_18 hl 0 rfl rfl ?_
  refine x_get 22 C dX3_at_19 X kf_X3_11 0 rfl rfl rfl ?_
  refine x_iload_n 23 C dX3_at_22 hl 1 rfl rfl ?_
  refine x_iald 24 C dX3_at_23 X 1 rfl hf rfl (fun hf => ?_)
  refine x_goto 28 C dX3_at_24 rfl ?_
  obtain rfl := Option.some.inj hf
  exact R _ _ _ _ X dX3_at_28
set_option maxHeartbeats 4000000 in
set_option maxRecDepth 100000 in
theorem c_X10_letter (l : Launch) (D : va_G) (T : KT) (h : Nat → Nat) (N : Nat) (v1 v2 : Int32) (m_drawers_full m_drawers_kept : Int32) (m_drawers_partA m_drawers_partB m_drawers_keptA m_drawers_keptB m_drawers_keptFull : Nat → Int32) (m_tape_size m_tape_plain m_tape_omegas m_tape_end m_tape_place m_tape_plainTold m_tape_omegasTold : Int32) (m_tape_bytes : Nat → Int32) (m_euclid_count : Int32) (m_euclid_last_a m_euclid_last_b m_euclid_lastOfFirst_a m_euclid_lastOfFirst_b m_euclid_lastOfSecond_a m_euclid_lastOfSecond_b m_euclid_next_a m_euclid_next_b m_euclid_nextOfFirst_a m_euclid_nextOfFirst_b m_euclid_nextOfSecond_a m_euclid_nextOfSecond_b m_euclid_q_a m_euclid_q_b : Int64) (m_euclid_quotientA m_euclid_quotientB : Nat → Int64) (m_modulus_step m_modulus_width m_modulus_slant m_modulus_square_a m_modulus_square_b : Int64) (m_factors_count m_factors_threes m_factors_unit : Int32) (m_factors_primeA m_factors_primeB m_factors_norms : Nat → Int64) (m_factors_euclid_count : Int32) (m_factors_euclid_last_a m_factors_euclid_last_b m_factors_euclid_lastOfFirst_a m_factors_euclid_lastOfFirst_b m_factors_euclid_lastOfSecond_a m_factors_euclid_lastOfSecond_b m_factors_euclid_next_a m_factors_euclid_next_b m_factors_euclid_nextOfFirst_a m_factors_euclid_nextOfFirst_b m_factors_euclid_nextOfSecond_a m_factors_euclid_nextOfSecond_b m_factors_euclid_q_a m_factors_euclid_q_b : Int64) (m_factors_euclid_quotientA m_factors_euclid_quotientB : Nat → Int64) (m_factors_left_a m_factors_left_b m_factors_found_a m_factors_found_b m_factors_product_a m_factors_product_b : Int64) (m_primes_count : Int32) (m_primes_primeA m_primes_primeB : Nat → Int32) (m_primes_found_a m_primes_found_b : Int64) (m_rings_foundA m_rings_foundB m_rings_all m_rings_mostOfOneRow m_letters_count : Int32) (m_letters_bytes : Nat → Int32) (m_one_a m_one_b m_two_a m_two_b m_three_a m_three_b m_four_a m_four_b m_out_a m_out_b m_spare_a m_spare_b : Int64) (m_marks : Nat → Int32) (x : Int32 × Int32 × (Nat → Int32) × Int64 × Int64) (hf : f_X10_letter N v1 v2 m_drawers_full m_drawers_partA m_drawers_partB m_letters_count m_letters_bytes m_one_a m_one_b = some x) : kx_MI l yX10_letter cX10_letter 3 (some .int) 3 68 D T [.ref (h 0), .int v1, .int v2] (wC T h m_drawers_full m_drawers_kept m_drawers_partA m_drawers_partB m_drawers_keptA m_drawers_keptB m_drawers_keptFull m_tape_size m_tape_plain m_tape_omegas m_tape_end m_tape_place m_tape_plainTold m_tape_omegasTold m_tape_bytes m_euclid_count m_euclid_last_a m_euclid_last_b m_euclid_lastOfFirst_a m_euclid_lastOfFirst_b m_euclid_lastOfSecond_a m_euclid_lastOfSecond_b m_euclid_next_a m_euclid_next_b m_euclid_nextOfFirst_a m_euclid_nextOfFirst_b m_euclid_nextOfSecond_a m_euclid_nextOfSecond_b m_euclid_q_a m_euclid_q_b m_euclid_quotientA m_euclid_quotientB m_modulus_step m_modulus_width m_modulus_slant m_modulus_square_a m_modulus_square_b m_factors_count m_factors_threes m_factors_unit m_factors_primeA m_factors_primeB m_factors_norms m_factors_euclid_count m_factors_euclid_last_a m_factors_euclid_last_b m_factors_euclid_lastOfFirst_a m_factors_euclid_lastOfFirst_b m_factors_euclid_lastOfSecond_a m_factors_euclid_lastOfSecond_b m_factors_euclid_next_a m_factors_euclid_next_b m_factors_euclid_nextOfFirst_a m_factors_euclid_nextOfFirst_b m_factors_euclid_nextOfSecond_a m_factors_euclid_nextOfSecond_b m_factors_euclid_q_a m_factors_euclid_q_b m_factors_euclid_quotientA m_factors_euclid_quotientB m_factors_left_a m_factors_left_b m_factors_found_a m_factors_found_b m_factors_product_a m_factors_product_b m_primes_count m_primes_primeA m_primes_primeB m_primes_found_a m_primes_found_b m_rings_foundA m_rings_foundB m_rings_all m_rings_mostOfOneRow m_letters_count m_letters_bytes m_one_a m_one_b m_two_a m_two_b m_three_a m_three_b m_four_a m_four_b m_out_a m_out_b m_spare_a m_spare_b m_marks) (wC T h m_drawers_full m_drawers_kept m_drawers_partA m_drawers_partB m_drawers_keptA m_drawers_keptB m_drawers_keptFull m_tape_size m_tape_plain m_tape_omegas m_tape_end m_tape_place m_tape_plainTold m_tape_omegasTold m_tape_bytes m_euclid_count m_euclid_last_a m_euclid_last_b m_euclid_lastOfFirst_a m_euclid_lastOfFirst_b m_euclid_lastOfSecond_a m_euclid_lastOfSecond_b m_euclid_next_a m_euclid_next_b m_euclid_nextOfFirst_a m_euclid_nextOfFirst_b m_euclid_nextOfSecond_a m_euclid_nextOfSecond_b m_euclid_q_a m_euclid_q_b m_euclid_quotientA m_euclid_quotientB m_modulus_step m_modulus_width m_modulus_slant m_modulus_square_a m_modulus_square_b m_factors_count m_factors_threes m_factors_unit m_factors_primeA m_factors_primeB m_factors_norms m_factors_euclid_count m_factors_euclid_last_a m_factors_euclid_last_b m_factors_euclid_lastOfFirst_a m_factors_euclid_lastOfFirst_b m_factors_euclid_lastOfSecond_a m_factors_euclid_lastOfSecond_b m_factors_euclid_next_a m_factors_euclid_next_b m_factors_euclid_nextOfFirst_a m_factors_euclid_nextOfFirst_b m_factors_euclid_nextOfSecond_a m_factors_euclid_nextOfSecond_b m_factors_euclid_q_a m_factors_euclid_q_b m_factors_euclid_quotientA m_factors_euclid_quotientB m_factors_left_a m_factors_left_b m_factors_found_a m_factors_found_b m_factors_product_a m_factors_product_b m_primes_count m_primes_primeA m_primes_primeB m_primes_found_a m_primes_found_b m_rings_foundA m_rings_foundB m_rings_all m_rings_mostOfOneRow x.2.1 x.2.2.1 x.2.2.2.1 x.2.2.2.2 m_two_a m_two_b m_three_a m_three_b m_four_a m_four_b m_out_a m_out_b m_spare_a m_spare_b m_marks) x.1 := by
  refine kx_ofMI RX10 rfl (plainFor_of_name (x := yX10_letter) kpn_X10) rfl ?_
  intro E A H ls _ C X R hl
  have hl : lv_has ls 3 [(0, .ref (h 0)), (1, .int v1), (2, .int v2)] := hl
  rw [f_X10_letter] at hf
  refine x_iload_n 1 C dX10_letter_0 hl 1 rfl rfl ?_
  obtain ⟨y1, hy1, hf⟩ := kx_bind hf
  refine x_callSi 4 C dX10_letter_1 X hl kl_X10_105 (c_X0_isOne E.2.1 D T  v1  y1 hy1) [] rfl rfl rfl rfl rfl cb_2 rfl (fun H locs X => ?_)
  refine x_if_eq 12 7 C dX10_letter_4 rfl rfl hf (fun hf => ?_) (fun hf => ?_)
  · refine x_iconst 13 C dX10_letter_12 (-1 : Int32) kv_iconst_m1 rfl ?_
    obtain rfl := Option.some.inj hf
    exact R _ _ _ _ X dX10_letter_13
  refine x_iload_n 8 C dX10_letter_7 hl 2 rfl rfl ?_
  refine x_iconst 9 C dX10_letter_8 (-1 : Int32) kv_iconst_m1 rfl ?_
  refine x_icmp_ge 14 12 C dX10_letter_9 rfl rfl hf (fun hf => ?_) (fun hf => ?_)
  · refine x_aload_n 15 C dX10_letter_14 hl 0 rfl rfl ?_
    refine x_get 18 C dX10_letter_15 X kf_X10_12 0 rfl rfl rfl ?_
    refine x_iload_n 19 C dX10_letter_18 hl 1 rfl rfl ?_
    obtain ⟨y19, hy19, hf⟩ := kx_bind hf
    refine x_callVi 22 C dX10_letter_19 X hl kl_X10_130 (c_X0_has E.2.1 D T (h 1) (h 2) (h 3) (h 4) (h 5) (h 6) v1 m_drawers_full m_drawers_kept y19 hy19) rfl rfl [] rfl rfl rfl rfl rfl cb_9 rfl (fun H locs X => ?_)
    refine x_if_ne 28 25 C dX10_letter_22 rfl rfl hf (fun hf => ?_) (fun hf => ?_)
    · refine x_aload_n 29 C dX10_letter_28 hl 0 rfl rfl ?_
      refine x_get 32 C dX10_letter_29 X kf_X10_12 0 rfl rfl rfl ?_
      refine x_iload_n 33 C dX10_letter_32 hl 1 rfl rfl ?_
      refine x_aload_n 34 C dX10_letter_33 hl 0 rfl rfl ?_
      refine x_get 37 C dX10_letter_34 X kf_X10_70 0 rfl rfl rfl ?_
      obtain ⟨y37, hy37, hf⟩ := kx_bind hf
      refine x_callVv 40 C dX10_letter_37 X hl kl_X10_141 (c_X0_load E.2.1 D T (h 1) (h 2) (h 3) (h 4) (h 5) (h 6) (h 45) v1 m_drawers_full m_drawers_kept m_drawers_partA m_drawers_partB m_one_a m_one_b y37 hy37) rfl rfl [] rfl rfl rfl rfl rfl cb_11 rfl (fun H locs X => ?_)
      refine x_aload_n 41 C dX10_letter_40 hl 0 rfl rfl ?_
      refine x_get 44 C dX10_letter_41 X kf_X10_63 0 rfl rfl rfl ?_
      refine x_aload_n 45 C dX10_letter_44 hl 0 rfl rfl ?_
      refine x_get 48 C dX10_letter_45 X kf_X10_70 0 rfl rfl rfl ?_
      refine x_get 51 C dX10_letter_48 X kf_X10_145 45 rfl rfl rfl ?_
      refine x_l2i 52 C dX10_letter_51 rfl ?_
      refine x_aload_n 53 C dX10_letter_52 hl 0 rfl rfl ?_
      refine x_get 56 C dX10_letter_53 X kf_X10_70 0 rfl rfl rfl ?_
      refine x_get 59 C dX10_letter_56 X kf_X10_149 45 rfl rfl rfl ?_
      refine x_l2i 60 C dX10_letter_59 rfl ?_
      obtain ⟨y60, hy60, hf⟩ := kx_bind hf
      refine x_callVv 63 C dX10_letter_60 X hl kl_X10_422 (c_X3_spellOut E.2.1 D T (h 43) (h 44) N (y37.1).toInt32 (y37.2).toInt32 m_letters_count m_letters_bytes y60 hy60) rfl rfl [] rfl rfl rfl rfl rfl cb_136 rfl (fun H locs X => ?_)
      refine x_iload_n 64 C dX10_letter_63 hl 2 rfl rfl ?_
      refine x_iconst 65 C dX10_letter_64 (-1 : Int32) kv_iconst_m1 rfl ?_
      refine x_icmp_ne 76 68 C dX10_letter_65 rfl rfl hf (fun hf => ?_) (fun hf => ?_)
      · refine x_iload_n 77 C dX10_letter_76 hl 2 rfl rfl ?_
        refine x_aload_n 78 C dX10_letter_77 hl 0 rfl rfl ?_
        refine x_get 81 C dX10_letter_78 X kf_X10_63 0 rfl rfl rfl ?_
        refine x_get 84 C dX10_letter_81 X kf_X10_425 43 rfl rfl rfl ?_
        refine x_icmp_lt 92 87 C dX10_letter_84 rfl rfl hf (fun hf => ?_) (fun hf => ?_)
        · refine x_aload_n 93 C dX10_letter_92 hl 0 rfl rfl ?_
          refine x_get 96 C dX10_letter_93 X kf_X10_63 0 rfl rfl rfl ?_
          refine x_iload_n 97 C dX10_letter_96 hl 2 rfl rfl ?_
          obtain ⟨y97, hy97, hf⟩ := kx_bind hf
          refine x_callVi 100 C dX10_letter_97 X hl kl_X10_426 (c_X3_at E.2.1 D T (h 43) (h 44) v2 y60.1 y60.2 y97 hy97) rfl rfl [] rfl rfl rfl rfl rfl cb_136 rfl (fun H locs X => ?_)
          obtain rfl := Option.some.inj hf
          exact R _ _ _ _ X dX10_letter_100
        refine x_bipush 89 C dX10_letter_87 (-3 : Int32) kv_bipush_m3 rfl ?_
        refine x_goto 100 C dX10_letter_89 rfl ?_
        obtain rfl := Option.some.inj hf
        exact R _ _ _ _ X dX10_letter_100
      refine x_aload_n 69 C dX10_letter_68 hl 0 rfl rfl ?_
      refine x_get 72 C dX10_letter_69 X kf_X10_63 0 rfl rfl rfl ?_
      refine x_get 75 C dX10_letter_72 X kf_X10_425 43 rfl rfl rfl ?_
      obtain rfl := Option.some.inj hf
      exact R _ _ _ _ X dX10_letter_75
    refine x_bipush 27 C dX10_letter_25 (-2 : Int32) kv_bipush_m2 rfl ?_
    obtain rfl := Option.some.inj hf
    exact R _ _ _ _ X dX10_letter_27
  refine x_iconst 13 C dX10_letter_12 (-1 : Int32) kv_iconst_m1 rfl ?_
  obtain rfl := Option.some.inj hf
  exact R _ _ _ _ X dX10_letter_13
set_option maxHeartbeats 4000000 in
set_option maxRecDepth 100000 in
theorem c_X11_letters (l : Launch) (D : va_G) (T : KT) (h : Nat → Nat) (v1 : Int32) (m_taped m_states : Int32) (m_ra m_rb : Int64) (m_threes m_primes m_ones m_unit : Int32) (m_allParts m_allNorms m_allClasses : Int64) (m_odd : Int32) (m_boxWide m_boxHigh m_boxStep : Int64) (m_partingMany : Int32) (m_qa m_qb m_la m_lb m_sa m_sb m_ta m_tb : Int64) (m_listed m_tells m_wanted m_found : Int32) (m_bits : Int64) (m_power2 m_rings m_ringA m_ringB m_seedNow : Int32) (m_tape m_has m_keptHas m_first m_second m_keptFirst m_keptSecond m_pa m_pb m_pNorm m_cubed m_isOpen m_signs m_often m_la0 m_lb0 : Nat → Int32) (x : Int32 × Int32) (hf : f_X11_letters v1 m_tells m_wanted m_found = some x) : kx_MV l yX11_letters cX11_letters 2 none 0 0 D T [.ref (h 0), .int v1] (wM T h m_taped m_states m_ra m_rb m_threes m_primes m_ones m_unit m_allParts m_allNorms m_allClasses m_odd m_boxWide m_boxHigh m_boxStep m_partingMany m_qa m_qb m_la m_lb m_sa m_sb m_ta m_tb m_listed m_tells m_wanted m_found m_bits m_power2 m_rings m_ringA m_ringB m_seedNow m_tape m_has m_keptHas m_first m_second m_keptFirst m_keptSecond m_pa m_pb m_pNorm m_cubed m_isOpen m_signs m_often m_la0 m_lb0) (wM T h m_taped m_states m_ra m_rb m_threes m_primes m_ones m_unit m_allParts m_allNorms m_allClasses m_odd m_boxWide m_boxHigh m_boxStep m_partingMany m_qa m_qb m_la m_lb m_sa m_sb m_ta m_tb m_listed x.1 m_wanted x.2 m_bits m_power2 m_rings m_ringA m_ringB m_seedNow m_tape m_has m_keptHas m_first m_second m_keptFirst m_keptSecond m_pa m_pb m_pNorm m_cubed m_isOpen m_signs m_often m_la0 m_lb0) := by
  refine kx_ofMV RX11 rfl (plainFor_of_name (x := yX11_letters) kpn_X11) rfl ?_
  intro E A H ls _ C X R hl
  have hl : lv_has ls 2 [(0, .ref (h 0)), (1, .int v1)] := hl
  rw [f_X11_letters] at hf
  refine x_aload_n 1 C dX11_letters_0 hl 0 rfl rfl ?_
  refine x_get 4 C dX11_letters_1 X kf_X11_399 0 rfl rfl rfl ?_
  refine x_aload_n 5 C dX11_letters_4 hl 0 rfl rfl ?_
  refine x_get 8 C dX11_letters_5 X kf_X11_402 0 rfl rfl rfl ?_
  refine x_icmp_ne 16 11 C dX11_letters_8 rfl rfl hf (fun hf => ?_) (fun hf => ?_)
  · refine x_aload_n 17 C dX11_letters_16 hl 0 rfl rfl ?_
    refine x_aload_n 18 C dX11_letters_17 hl 0 rfl rfl ?_
    refine x_get 21 C dX11_letters_18 X kf_X11_399 0 rfl rfl rfl ?_
    refine x_iconst 22 C dX11_letters_21 (1 : Int32) kv_iconst_1 rfl ?_
    refine x_iadd 23 C dX11_letters_22 rfl ?_
    refine x_put 26 C dX11_letters_23 X kp_X11_399 0 rfl rfl rfl rfl (wM T h m_taped m_states m_ra m_rb m_threes m_primes m_ones m_unit m_allParts m_allNorms m_allClasses m_odd m_boxWide m_boxHigh m_boxStep m_partingMany m_qa m_qb m_la m_lb m_sa m_sb m_ta m_tb m_listed (m_tells + (1 : Int32)) m_wanted m_found m_bits m_power2 m_rings m_ringA m_ringB m_seedNow m_tape m_has m_keptHas m_first m_second m_keptFirst m_keptSecond m_pa m_pb m_pNorm m_cubed m_isOpen m_signs m_often m_la0 m_lb0) rfl rfl (fun H locs X => ?_)
    obtain rfl := Option.some.inj hf
    exact R _ _ _ _ X dX11_letters_26
  refine x_aload_n 12 C dX11_letters_11 hl 0 rfl rfl ?_
  refine x_iload_n 13 C dX11_letters_12 hl 1 rfl rfl ?_
  refine x_put 16 C dX11_letters_13 X kp_X11_405 0 rfl rfl rfl rfl (wM T h m_taped m_states m_ra m_rb m_threes m_primes m_ones m_unit m_allParts m_allNorms m_allClasses m_odd m_boxWide m_boxHigh m_boxStep m_partingMany m_qa m_qb m_la m_lb m_sa m_sb m_ta m_tb m_listed m_tells m_wanted v1 m_bits m_power2 m_rings m_ringA m_ringB m_seedNow m_tape m_has m_keptHas m_first m_second m_keptFirst m_keptSecond m_pa m_pb m_pNorm m_cubed m_isOpen m_signs m_often m_la0 m_lb0) rfl rfl (fun H locs X => ?_)
  refine x_aload_n 17 C dX11_letters_16 hl 0 rfl rfl ?_
  refine x_aload_n 18 C dX11_letters_17 hl 0 rfl rfl ?_
  refine x_get 21 C dX11_letters_18 X kf_X11_399 0 rfl rfl rfl ?_
  refine x_iconst 22 C dX11_letters_21 (1 : Int32) kv_iconst_1 rfl ?_
  refine x_iadd 23 C dX11_letters_22 rfl ?_
  refine x_put 26 C dX11_letters_23 X kp_X11_399 0 rfl rfl rfl rfl (wM T h m_taped m_states m_ra m_rb m_threes m_primes m_ones m_unit m_allParts m_allNorms m_allClasses m_odd m_boxWide m_boxHigh m_boxStep m_partingMany m_qa m_qb m_la m_lb m_sa m_sb m_ta m_tb m_listed (m_tells + (1 : Int32)) m_wanted v1 m_bits m_power2 m_rings m_ringA m_ringB m_seedNow m_tape m_has m_keptHas m_first m_second m_keptFirst m_keptSecond m_pa m_pb m_pNorm m_cubed m_isOpen m_signs m_often m_la0 m_lb0) rfl rfl (fun H locs X => ?_)
  obtain rfl := Option.some.inj hf
  exact R _ _ _ _ X dX11_letters_26
set_option maxHeartbeats 4000000 in
set_option maxRecDepth 100000 in
theorem w_X11_digits_18 {E : KE} {A : Nat → Prop} {D : va_G} {T : KT} (h : Nat → Nat) (C : kx_C E cX11_digits 3 none RX11 1 21 D T) (N : Nat) (x : Int32 × Int32) (m_taped m_states : Int32) (m_ra m_rb : Int64) (m_threes m_primes m_ones m_unit : Int32) (m_allParts m_allNorms m_allClasses : Int64) (m_odd : Int32) (m_boxWide m_boxHigh m_boxStep : Int64) (m_partingMany : Int32) (m_qa m_qb m_la m_lb m_sa m_sb m_ta m_tb : Int64) (m_listed m_wanted : Int32) (m_bits : Int64) (m_power2 m_rings m_ringA m_ringB m_seedNow : Int32) (m_tape m_has m_keptHas m_first m_second m_keptFirst m_keptSecond m_pa m_pb m_pNorm m_cubed m_isOpen m_signs m_often m_la0 m_lb0 : Nat → Int32) (R : kx_RV E cX11_digits D A (wM T h m_taped m_states m_ra m_rb m_threes m_primes m_ones m_unit m_allParts m_allNorms m_allClasses m_odd m_boxWide m_boxHigh m_boxStep m_partingMany m_qa m_qb m_la m_lb m_sa m_sb m_ta m_tb m_listed x.1 m_wanted x.2 m_bits m_power2 m_rings m_ringA m_ringB m_seedNow m_tape m_has m_keptHas m_first m_second m_keptFirst m_keptSecond m_pa m_pb m_pNorm m_cubed m_isOpen m_signs m_often m_la0 m_lb0)) (k4 : Int32 → Int32 → Int32 → Int32 → Int32 → Option (Int32 × Int32)) (hk4 : ∀ (m_tells m_found : Int32) (v1 v2 : Int32) (H : Heap) (locs : List Loc) (ls : Array Slot), kx_H E D A H locs (wM T h m_taped m_states m_ra m_rb m_threes m_primes m_ones m_unit m_allParts m_allNorms m_allClasses m_odd m_boxWide m_boxHigh m_boxStep m_partingMany m_qa m_qb m_la m_lb m_sa m_sb m_ta m_tb m_listed m_tells m_wanted m_found m_bits m_power2 m_rings m_ringA m_ringB m_seedNow m_tape m_has m_keptHas m_first m_second m_keptFirst m_keptSecond m_pa m_pb m_pNorm m_cubed m_isOpen m_signs m_often m_la0 m_lb0) → lv_has ls 3 [(0, .ref (h 0)), (1, .int v1), (2, .int v2)] → k4 v1 v2 m_tells m_wanted m_found = some x → kx_W E H locs 4 ls []) : ∀ (m_tells m_found : Int32) (v1 v2 : Int32) (H : Heap) (locs : List Loc) (ls : Array Slot), kx_H E D A H locs (wM T h m_taped m_states m_ra m_rb m_threes m_primes m_ones m_unit m_allParts m_allNorms m_allClasses m_odd m_boxWide m_boxHigh m_boxStep m_partingMany m_qa m_qb m_la m_lb m_sa m_sb m_ta m_tb m_listed m_tells m_wanted m_found m_bits m_power2 m_rings m_ringA m_ringB m_seedNow m_tape m_has m_keptHas m_first m_second m_keptFirst m_keptSecond m_pa m_pb m_pNorm m_cubed m_isOpen m_signs m_often m_la0 m_lb0) → lv_has ls 3 [(0, .ref (h 0)), (1, .int v1), (2, .int v2)] → f_X11_digits_18 N k4 v1 v2 m_tells m_wanted m_found = some x → kx_W E H locs 18 ls [] := by
  intro m_tells m_found v1 v2 H locs ls X hl hf
  rw [f_X11_digits_18] at hf
  refine x_aload_n 19 C dX11_digits_18 hl 0 rfl rfl ?_
  refine x_bipush 21 C dX11_digits_19 (48 : Int32) kv_bipush_48 rfl ?_
  refine x_iload_n 22 C dX11_digits_21 hl 1 rfl rfl ?_
  refine x_iload_n 23 C dX11_digits_22 hl 2 rfl rfl ?_
  refine x_idiv 24 C dX11_digits_23 hf rfl (fun hf => ?_)
  refine x_bipush 26 C dX11_digits_24 (10 : Int32) kv_bipush_10 rfl ?_
  refine x_irem0 27 C dX11_digits_26 kz_i_10 rfl ?_
  refine x_iadd 28 C dX11_digits_27 rfl ?_
  obtain ⟨y28, hy28, hf⟩ := kx_bind hf
  refine x_callVv0 31 C dX11_digits_28 X hl kl_X11_408 (c_X11_letters E.2.1 D T h ((48 : Int32) + ((v1 / v2) - (v1 / v2) / (10 : Int32) * (10 : Int32))) m_taped m_states m_ra m_rb m_threes m_primes m_ones m_unit m_allParts m_allNorms m_allClasses m_odd m_boxWide m_boxHigh m_boxStep m_partingMany m_qa m_qb m_la m_lb m_sa m_sb m_ta m_tb m_listed m_tells m_wanted m_found m_bits m_power2 m_rings m_ringA m_ringB m_seedNow m_tape m_has m_keptHas m_first m_second m_keptFirst m_keptSecond m_pa m_pb m_pNorm m_cubed m_isOpen m_signs m_often m_la0 m_lb0 y28 hy28) rfl rfl [] rfl rfl rfl rfl rfl rfl (fun H locs X => ?_)
  refine x_iload_n 32 C dX11_digits_31 hl 2 rfl rfl ?_
  refine x_bipush 34 C dX11_digits_32 (10 : Int32) kv_bipush_10 rfl ?_
  refine x_idiv0 35 C dX11_digits_34 kz_i_10 rfl ?_
  refine x_istore_n 36 C dX11_digits_35 [(2, .int (v2 / (10 : Int32))), (0, .ref (h 0)), (1, .int v1)] hl rfl rfl rfl (fun ls hl => ?_)
  refine x_goto 4 C dX11_digits_36 rfl ?_
  exact hk4 y28.1 y28.2 v1 (v2 / (10 : Int32)) _ _ _ X (lv_sub hl [1, 2, 0] rfl) hf
set_option maxHeartbeats 4000000 in
set_option maxRecDepth 100000 in
theorem w_X11_digits_4 {E : KE} {A : Nat → Prop} {D : va_G} {T : KT} (h : Nat → Nat) (C : kx_C E cX11_digits 3 none RX11 1 21 D T) (N : Nat) (x : Int32 × Int32) (m_taped m_states : Int32) (m_ra m_rb : Int64) (m_threes m_primes m_ones m_unit : Int32) (m_allParts m_allNorms m_allClasses : Int64) (m_odd : Int32) (m_boxWide m_boxHigh m_boxStep : Int64) (m_partingMany : Int32) (m_qa m_qb m_la m_lb m_sa m_sb m_ta m_tb : Int64) (m_listed m_wanted : Int32) (m_bits : Int64) (m_power2 m_rings m_ringA m_ringB m_seedNow : Int32) (m_tape m_has m_keptHas m_first m_second m_keptFirst m_keptSecond m_pa m_pb m_pNorm m_cubed m_isOpen m_signs m_often m_la0 m_lb0 : Nat → Int32) (R : kx_RV E cX11_digits D A (wM T h m_taped m_states m_ra m_rb m_threes m_primes m_ones m_unit m_allParts m_allNorms m_allClasses m_odd m_boxWide m_boxHigh m_boxStep m_partingMany m_qa m_qb m_la m_lb m_sa m_sb m_ta m_tb m_listed x.1 m_wanted x.2 m_bits m_power2 m_rings m_ringA m_ringB m_seedNow m_tape m_has m_keptHas m_first m_second m_keptFirst m_keptSecond m_pa m_pb m_pNorm m_cubed m_isOpen m_signs m_often m_la0 m_lb0)) : ∀ (k : Nat), ∀ (m_tells m_found : Int32) (v1 v2 : Int32) (H : Heap) (locs : List Loc) (ls : Array Slot), kx_H E D A H locs (wM T h m_taped m_states m_ra m_rb m_threes m_primes m_ones m_unit m_allParts m_allNorms m_allClasses m_odd m_boxWide m_boxHigh m_boxStep m_partingMany m_qa m_qb m_la m_lb m_sa m_sb m_ta m_tb m_listed m_tells m_wanted m_found m_bits m_power2 m_rings m_ringA m_ringB m_seedNow m_tape m_has m_keptHas m_first m_second m_keptFirst m_keptSecond m_pa m_pb m_pNorm m_cubed m_isOpen m_signs m_often m_la0 m_lb0) → lv_has ls 3 [(0, .ref (h 0)), (1, .int v1), (2, .int v2)] → f_X11_digits_4 N k v1 v2 m_tells m_wanted m_found = some x → kx_W E H locs 4 ls [] := by
  intro k
  induction k with
  | zero =>
    intro m_tells m_found v1 v2 H locs ls X hl hf
    cases (show (none : Option (Int32 × Int32)) = some x from hf)
  | succ k ih =>
    intro m_tells m_found v1 v2 H locs ls X hl hf
    rw [f_X11_digits_4] at hf
    refine x_iload_n 5 C dX11_digits_4 hl 2 rfl rfl ?_
    refine x_if_le 39 8 C dX11_digits_5 rfl rfl hf (fun hf => ?_) (fun hf => ?_)
    · obtain rfl := Option.some.inj hf
      exact R _ _ _ _ X dX11_digits_39
    refine x_iload_n 9 C dX11_digits_8 hl 1 rfl rfl ?_
    refine x_iload_n 10 C dX11_digits_9 hl 2 rfl rfl ?_
    refine x_icmp_ge 18 13 C dX11_digits_10 rfl rfl hf (fun hf => ?_) (fun hf => ?_)
    · exact w_X11_digits_18 h C N x m_taped m_states m_ra m_rb m_threes m_primes m_ones m_unit m_allParts m_allNorms m_allClasses m_odd m_boxWide m_boxHigh m_boxStep m_partingMany m_qa m_qb m_la m_lb m_sa m_sb m_ta m_tb m_listed m_wanted m_bits m_power2 m_rings m_ringA m_ringB m_seedNow m_tape m_has m_keptHas m_first m_second m_keptFirst m_keptSecond m_pa m_pb m_pNorm m_cubed m_isOpen m_signs m_often m_la0 m_lb0 R (f_X11_digits_4 N k) ih m_tells m_found v1 v2 _ _ _ X (lv_sub hl [0, 1, 2] rfl) hf
    refine x_iload_n 14 C dX11_digits_13 hl 2 rfl rfl ?_
    refine x_iconst 15 C dX11_digits_14 (1 : Int32) kv_iconst_1 rfl ?_
    refine x_icmp_ne 31 18 C dX11_digits_15 rfl rfl hf (fun hf => ?_) (fun hf => ?_)
    · refine x_iload_n 32 C dX11_digits_31 hl 2 rfl rfl ?_
      refine x_bipush 34 C dX11_digits_32 (10 : Int32) kv_bipush_10 rfl ?_
      refine x_idiv0 35 C dX11_digits_34 kz_i_10 rfl ?_
      refine x_istore_n 36 C dX11_digits_35 [(2, .int (v2 / (10 : Int32))), (0, .ref (h 0)), (1, .int v1)] hl rfl rfl rfl (fun ls hl => ?_)
      refine x_goto 4 C dX11_digits_36 rfl ?_
      exact ih m_tells m_found v1 (v2 / (10 : Int32)) _ _ _ X (lv_sub hl [1, 2, 0] rfl) hf
    exact w_X11_digits_18 h C N x m_taped m_states m_ra m_rb m_threes m_primes m_ones m_unit m_allParts m_allNorms m_allClasses m_odd m_boxWide m_boxHigh m_boxStep m_partingMany m_qa m_qb m_la m_lb m_sa m_sb m_ta m_tb m_listed m_wanted m_bits m_power2 m_rings m_ringA m_ringB m_seedNow m_tape m_has m_keptHas m_first m_second m_keptFirst m_keptSecond m_pa m_pb m_pNorm m_cubed m_isOpen m_signs m_often m_la0 m_lb0 R (f_X11_digits_4 N k) ih m_tells m_found v1 v2 _ _ _ X (lv_sub hl [0, 1, 2] rfl) hf
set_option maxHeartbeats 4000000 in
set_option maxRecDepth 100000 in
theorem c_X11_digits (l : Launch) (D : va_G) (T : KT) (h : Nat → Nat) (N : Nat) (v1 : Int32) (m_taped m_states : Int32) (m_ra m_rb : Int64) (m_threes m_primes m_ones m_unit : Int32) (m_allParts m_allNorms m_allClasses : Int64) (m_odd : Int32) (m_boxWide m_boxHigh m_boxStep : Int64) (m_partingMany : Int32) (m_qa m_qb m_la m_lb m_sa m_sb m_ta m_tb : Int64) (m_listed m_tells m_wanted m_found : Int32) (m_bits : Int64) (m_power2 m_rings m_ringA m_ringB m_seedNow : Int32) (m_tape m_has m_keptHas m_first m_second m_keptFirst m_keptSecond m_pa m_pb m_pNorm m_cubed m_isOpen m_signs m_often m_la0 m_lb0 : Nat → Int32) (x : Int32 × Int32) (hf : f_X11_digits N v1 m_tells m_wanted m_found = some x) : kx_MV l yX11_digits cX11_digits 3 none 1 21 D T [.ref (h 0), .int v1] (wM T h m_taped m_states m_ra m_rb m_threes m_primes m_ones m_unit m_allParts m_allNorms m_allClasses m_odd m_boxWide m_boxHigh m_boxStep m_partingMany m_qa m_qb m_la m_lb m_sa m_sb m_ta m_tb m_listed m_tells m_wanted m_found m_bits m_power2 m_rings m_ringA m_ringB m_seedNow m_tape m_has m_keptHas m_first m_second m_keptFirst m_keptSecond m_pa m_pb m_pNorm m_cubed m_isOpen m_signs m_often m_la0 m_lb0) (wM T h m_taped m_states m_ra m_rb m_threes m_primes m_ones m_unit m_allParts m_allNorms m_allClasses m_odd m_boxWide m_boxHigh m_boxStep m_partingMany m_qa m_qb m_la m_lb m_sa m_sb m_ta m_tb m_listed x.1 m_wanted x.2 m_bits m_power2 m_rings m_ringA m_ringB m_seedNow m_tape m_has m_keptHas m_first m_second m_keptFirst m_keptSecond m_pa m_pb m_pNorm m_cubed m_isOpen m_signs m_often m_la0 m_lb0) := by
  refine kx_ofMV RX11 rfl (plainFor_of_name (x := yX11_digits) kpn_X11) rfl ?_
  intro E A H ls _ C X R hl
  have hl : lv_has ls 3 [(0, .ref (h 0)), (1, .int v1)] := hl
  rw [f_X11_digits] at hf
  refine x_sipush 3 C dX11_digits_0 (1000 : Int32) kv_sipush_1000 rfl ?_
  refine x_istore_n 4 C dX11_digits_3 [(2, .int (1000 : Int32)), (0, .ref (h 0)), (1, .int v1)] hl rfl rfl rfl (fun ls hl => ?_)
  exact w_X11_digits_4 h C N x m_taped m_states m_ra m_rb m_threes m_primes m_ones m_unit m_allParts m_allNorms m_allClasses m_odd m_boxWide m_boxHigh m_boxStep m_partingMany m_qa m_qb m_la m_lb m_sa m_sb m_ta m_tb m_listed m_wanted m_bits m_power2 m_rings m_ringA m_ringB m_seedNow m_tape m_has m_keptHas m_first m_second m_keptFirst m_keptSecond m_pa m_pb m_pNorm m_cubed m_isOpen m_signs m_often m_la0 m_lb0 R  N m_tells m_found v1 (1000 : Int32) _ _ _ X (lv_sub hl [1, 2, 0] rfl) hf
set_option maxHeartbeats 4000000 in
set_option maxRecDepth 100000 in
theorem w_X11_letter_150 {E : KE} {A : Nat → Prop} {D : va_G} {T : KT} (h : Nat → Nat) (C : kx_C E cX11_letter 5 (some .int) RX11 2 45 D T) (N : Nat) (x : Int32 × Int32 × Int32 × Int32) (m_taped m_states : Int32) (m_ra m_rb : Int64) (m_threes m_primes m_ones m_unit : Int32) (m_allParts m_allNorms m_allClasses : Int64) (m_odd : Int32) (m_boxWide m_boxHigh m_boxStep : Int64) (m_partingMany : Int32) (m_qa m_qb m_la m_lb m_sa m_sb m_ta m_tb : Int64) (m_listed : Int32) (m_bits : Int64) (m_power2 m_rings m_ringA m_ringB m_seedNow : Int32) (m_tape m_has m_keptHas m_first m_second m_keptFirst m_keptSecond m_pa m_pb m_pNorm m_cubed m_isOpen m_signs m_often m_la0 m_lb0 : Nat → Int32) (R : kx_RI E cX11_letter D A (wM T h m_taped m_states m_ra m_rb m_threes m_primes m_ones m_unit m_allParts m_allNorms m_allClasses m_odd m_boxWide m_boxHigh m_boxStep m_partingMany m_qa m_qb m_la m_lb m_sa m_sb m_ta m_tb m_listed x.2.1 x.2.2.1 x.2.2.2 m_bits m_power2 m_rings m_ringA m_ringB m_seedNow m_tape m_has m_keptHas m_first m_second m_keptFirst m_keptSecond m_pa m_pb m_pNorm m_cubed m_isOpen m_signs m_often m_la0 m_lb0) x.1) : ∀ (m_tells m_wanted m_found : Int32) (v2 : Int32) (H : Heap) (locs : List Loc) (ls : Array Slot), kx_H E D A H locs (wM T h m_taped m_states m_ra m_rb m_threes m_primes m_ones m_unit m_allParts m_allNorms m_allClasses m_odd m_boxWide m_boxHigh m_boxStep m_partingMany m_qa m_qb m_la m_lb m_sa m_sb m_ta m_tb m_listed m_tells m_wanted m_found m_bits m_power2 m_rings m_ringA m_ringB m_seedNow m_tape m_has m_keptHas m_first m_second m_keptFirst m_keptSecond m_pa m_pb m_pNorm m_cubed m_isOpen m_signs m_often m_la0 m_lb0) → lv_has ls 5 [(0, .ref (h 0)), (2, .int v2)] → f_X11_letter_150 N v2 m_tells m_wanted m_found = some x → kx_W E H locs 150 ls [] := by
  intro m_tells m_wanted m_found v2 H locs ls X hl hf
  rw [f_X11_letter_150] at hf
  refine x_iload_n 151 C dX11_letter_150 hl 1 rfl rfl ?_
  refine x_iconst 152 C dX11_letter_151 (-1 : Int32) kv_iconst_m1 rfl ?_
  refine x_icmp_ne 162 155 C dX11_letter_152 rfl rfl hf (fun hf => ?_) (fun hf => ?_)
  · refine x_iload_n 163 C dX11_letter_162 hl 1 rfl rfl ?_
    refine x_aload_n 164 C dX11_letter_163 hl 0 rfl rfl ?_
    refine x_get 167 C dX11_letter_164 X kf_X11_399 0 rfl rfl rfl ?_
    refine x_icmp_ge 177 170 C dX11_letter_167 rfl rfl hf (fun hf => ?_) (fun hf => ?_)
    · refine x_bipush 179 C dX11_letter_177 (-3 : Int32) kv_bipush_m3 rfl ?_
      obtain rfl := Option.some.inj hf
      exact R _ _ _ _ X dX11_letter_179
    refine x_aload_n 171 C dX11_letter_170 hl 0 rfl rfl ?_
    refine x_get 174 C dX11_letter_171 X kf_X11_405 0 rfl rfl rfl ?_
    refine x_goto 179 C dX11_letter_174 rfl ?_
    obtain rfl := Option.some.inj hf
    exact R _ _ _ _ X dX11_letter_179
  refine x_aload_n 156 C dX11_letter_155 hl 0 rfl rfl ?_
  refine x_get 159 C dX11_letter_156 X kf_X11_399 0 rfl rfl rfl ?_
  refine x_goto 179 C dX11_letter_159 rfl ?_
  obtain rfl := Option.some.inj hf
  exact R _ _ _ _ X dX11_letter_179
set_option maxHeartbeats 4000000 in
set_option maxRecDepth 100000 in
theorem w_X11_letter_139 {E : KE} {A : Nat → Prop} {D : va_G} {T : KT} (h : Nat → Nat) (C : kx_C E cX11_letter 5 (some .int) RX11 2 45 D T) (N : Nat) (x : Int32 × Int32 × Int32 × Int32) (m_taped m_states : Int32) (m_ra m_rb : Int64) (m_threes m_primes m_ones m_unit : Int32) (m_allParts m_allNorms m_allClasses : Int64) (m_odd : Int32) (m_boxWide m_boxHigh m_boxStep : Int64) (m_partingMany : Int32) (m_qa m_qb m_la m_lb m_sa m_sb m_ta m_tb : Int64) (m_listed : Int32) (m_bits : Int64) (m_power2 m_rings m_ringA m_ringB m_seedNow : Int32) (m_tape m_has m_keptHas m_first m_second m_keptFirst m_keptSecond m_pa m_pb m_pNorm m_cubed m_isOpen m_signs m_often m_la0 m_lb0 : Nat → Int32) (R : kx_RI E cX11_letter D A (wM T h m_taped m_states m_ra m_rb m_threes m_primes m_ones m_unit m_allParts m_allNorms m_allClasses m_odd m_boxWide m_boxHigh m_boxStep m_partingMany m_qa m_qb m_la m_lb m_sa m_sb m_ta m_tb m_listed x.2.1 x.2.2.1 x.2.2.2 m_bits m_power2 m_rings m_ringA m_ringB m_seedNow m_tape m_has m_keptHas m_first m_second m_keptFirst m_keptSecond m_pa m_pb m_pNorm m_cubed m_isOpen m_signs m_often m_la0 m_lb0) x.1) : ∀ (m_tells m_wanted m_found : Int32) (v2 v4 : Int32) (H : Heap) (locs : List Loc) (ls : Array Slot), kx_H E D A H locs (wM T h m_taped m_states m_ra m_rb m_threes m_primes m_ones m_unit m_allParts m_allNorms m_allClasses m_odd m_boxWide m_boxHigh m_boxStep m_partingMany m_qa m_qb m_la m_lb m_sa m_sb m_ta m_tb m_listed m_tells m_wanted m_found m_bits m_power2 m_rings m_ringA m_ringB m_seedNow m_tape m_has m_keptHas m_first m_second m_keptFirst m_keptSecond m_pa m_pb m_pNorm m_cubed m_isOpen m_signs m_often m_la0 m_lb0) → lv_has ls 5 [(0, .ref (h 0)), (2, .int v2), (4, .int v4)] → f_X11_letter_139 N v2 v4 m_tells m_wanted m_found = some x → kx_W E H locs 139 ls [] := by
  intro m_tells m_wanted m_found v2 v4 H locs ls X hl hf
  rw [f_X11_letter_139] at hf
  refine x_iload 141 C dX11_letter_139 hl 2 rfl rfl ?_
  refine x_if_eq 150 144 C dX11_letter_141 rfl rfl hf (fun hf => ?_) (fun hf => ?_)
  · exact w_X11_letter_150 h C N x m_taped m_states m_ra m_rb m_threes m_primes m_ones m_unit m_allParts m_allNorms m_allClasses m_odd m_boxWide m_boxHigh m_boxStep m_partingMany m_qa m_qb m_la m_lb m_sa m_sb m_ta m_tb m_listed m_bits m_power2 m_rings m_ringA m_ringB m_seedNow m_tape m_has m_keptHas m_first m_second m_keptFirst m_keptSecond m_pa m_pb m_pNorm m_cubed m_isOpen m_signs m_often m_la0 m_lb0 R  m_tells m_wanted m_found v2 _ _ _ X (lv_sub hl [0, 1] rfl) hf
  refine x_aload_n 145 C dX11_letter_144 hl 0 rfl rfl ?_
  refine x_bipush 147 C dX11_letter_145 (119 : Int32) kv_bipush_119 rfl ?_
  obtain ⟨y147, hy147, hf⟩ := kx_bind hf
  refine x_callVv0 150 C dX11_letter_147 X hl kl_X11_408 (c_X11_letters E.2.1 D T h (119 : Int32) m_taped m_states m_ra m_rb m_threes m_primes m_ones m_unit m_allParts m_allNorms m_allClasses m_odd m_boxWide m_boxHigh m_boxStep m_partingMany m_qa m_qb m_la m_lb m_sa m_sb m_ta m_tb m_listed m_tells m_wanted m_found m_bits m_power2 m_rings m_ringA m_ringB m_seedNow m_tape m_has m_keptHas m_first m_second m_keptFirst m_keptSecond m_pa m_pb m_pNorm m_cubed m_isOpen m_signs m_often m_la0 m_lb0 y147 hy147) rfl rfl [] rfl rfl rfl rfl rfl rfl (fun H locs X => ?_)
  exact w_X11_letter_150 h C N x m_taped m_states m_ra m_rb m_threes m_primes m_ones m_unit m_allParts m_allNorms m_allClasses m_odd m_boxWide m_boxHigh m_boxStep m_partingMany m_qa m_qb m_la m_lb m_sa m_sb m_ta m_tb m_listed m_bits m_power2 m_rings m_ringA m_ringB m_seedNow m_tape m_has m_keptHas m_first m_second m_keptFirst m_keptSecond m_pa m_pb m_pNorm m_cubed m_isOpen m_signs m_often m_la0 m_lb0 R  y147.1 m_wanted y147.2 v2 _ _ _ X (lv_sub hl [0, 1] rfl) hf
set_option maxHeartbeats 4000000 in
set_option maxRecDepth 100000 in
theorem w_X11_letter_122 {E : KE} {A : Nat → Prop} {D : va_G} {T : KT} (h : Nat → Nat) (C : kx_C E cX11_letter 5 (some .int) RX11 2 45 D T) (N : Nat) (x : Int32 × Int32 × Int32 × Int32) (m_taped m_states : Int32) (m_ra m_rb : Int64) (m_threes m_primes m_ones m_unit : Int32) (m_allParts m_allNorms m_allClasses : Int64) (m_odd : Int32) (m_boxWide m_boxHigh m_boxStep : Int64) (m_partingMany : Int32) (m_qa m_qb m_la m_lb m_sa m_sb m_ta m_tb : Int64) (m_listed : Int32) (m_bits : Int64) (m_power2 m_rings m_ringA m_ringB m_seedNow : Int32) (m_tape m_has m_keptHas m_first m_second m_keptFirst m_keptSecond m_pa m_pb m_pNorm m_cubed m_isOpen m_signs m_often m_la0 m_lb0 : Nat → Int32) (R : kx_RI E cX11_letter D A (wM T h m_taped m_states m_ra m_rb m_threes m_primes m_ones m_unit m_allParts m_allNorms m_allClasses m_odd m_boxWide m_boxHigh m_boxStep m_partingMany m_qa m_qb m_la m_lb m_sa m_sb m_ta m_tb m_listed x.2.1 x.2.2.1 x.2.2.2 m_bits m_power2 m_rings m_ringA m_ringB m_seedNow m_tape m_has m_keptHas m_first m_second m_keptFirst m_keptSecond m_pa m_pb m_pNorm m_cubed m_isOpen m_signs m_often m_la0 m_lb0) x.1) : ∀ (m_tells m_wanted m_found : Int32) (v2 v4 : Int32) (H : Heap) (locs : List Loc) (ls : Array Slot), kx_H E D A H locs (wM T h m_taped m_states m_ra m_rb m_threes m_primes m_ones m_unit m_allParts m_allNorms m_allClasses m_odd m_boxWide m_boxHigh m_boxStep m_partingMany m_qa m_qb m_la m_lb m_sa m_sb m_ta m_tb m_listed m_tells m_wanted m_found m_bits m_power2 m_rings m_ringA m_ringB m_seedNow m_tape m_has m_keptHas m_first m_second m_keptFirst m_keptSecond m_pa m_pb m_pNorm m_cubed m_isOpen m_signs m_often m_la0 m_lb0) → lv_has ls 5 [(0, .ref (h 0)), (2, .int v2), (4, .int v4)] → f_X11_letter_122 N v2 v4 m_tells m_wanted m_found = some x → kx_W E H locs 122 ls [] := by
  intro m_tells m_wanted m_found v2 v4 H locs ls X hl hf
  rw [f_X11_letter_122] at hf
  refine x_aload_n 123 C dX11_letter_122 hl 0 rfl rfl ?_
  refine x_iload 125 C dX11_letter_123 hl 2 rfl rfl ?_
  refine x_if_ge 134 128 C dX11_letter_125 rfl rfl hf (fun hf => ?_) (fun hf => ?_)
  · refine x_iload 136 C dX11_letter_134 hl 2 rfl rfl ?_
    obtain ⟨y136, hy136, hf⟩ := kx_bind hf
    refine x_callVv0 139 C dX11_letter_136 X hl kl_X11_411 (c_X11_digits E.2.1 D T h N v4 m_taped m_states m_ra m_rb m_threes m_primes m_ones m_unit m_allParts m_allNorms m_allClasses m_odd m_boxWide m_boxHigh m_boxStep m_partingMany m_qa m_qb m_la m_lb m_sa m_sb m_ta m_tb m_listed m_tells m_wanted m_found m_bits m_power2 m_rings m_ringA m_ringB m_seedNow m_tape m_has m_keptHas m_first m_second m_keptFirst m_keptSecond m_pa m_pb m_pNorm m_cubed m_isOpen m_signs m_often m_la0 m_lb0 y136 hy136) rfl rfl [] rfl rfl rfl rfl rfl rfl (fun H locs X => ?_)
    exact w_X11_letter_139 h C N x m_taped m_states m_ra m_rb m_threes m_primes m_ones m_unit m_allParts m_allNorms m_allClasses m_odd m_boxWide m_boxHigh m_boxStep m_partingMany m_qa m_qb m_la m_lb m_sa m_sb m_ta m_tb m_listed m_bits m_power2 m_rings m_ringA m_ringB m_seedNow m_tape m_has m_keptHas m_first m_second m_keptFirst m_keptSecond m_pa m_pb m_pNorm m_cubed m_isOpen m_signs m_often m_la0 m_lb0 R  y136.1 m_wanted y136.2 v2 v4 _ _ _ X (lv_sub hl [0, 1, 2] rfl) hf
  refine x_iload 130 C dX11_letter_128 hl 2 rfl rfl ?_
  refine x_ineg 131 C dX11_letter_130 rfl ?_
  refine x_goto 136 C dX11_letter_131 rfl ?_
  obtain ⟨y136, hy136, hf⟩ := kx_bind hf
  refine x_callVv0 139 C dX11_letter_136 X hl kl_X11_411 (c_X11_digits E.2.1 D T h N (-v4) m_taped m_states m_ra m_rb m_threes m_primes m_ones m_unit m_allParts m_allNorms m_allClasses m_odd m_boxWide m_boxHigh m_boxStep m_partingMany m_qa m_qb m_la m_lb m_sa m_sb m_ta m_tb m_listed m_tells m_wanted m_found m_bits m_power2 m_rings m_ringA m_ringB m_seedNow m_tape m_has m_keptHas m_first m_second m_keptFirst m_keptSecond m_pa m_pb m_pNorm m_cubed m_isOpen m_signs m_often m_la0 m_lb0 y136 hy136) rfl rfl [] rfl rfl rfl rfl rfl rfl (fun H locs X => ?_)
  exact w_X11_letter_139 h C N x m_taped m_states m_ra m_rb m_threes m_primes m_ones m_unit m_allParts m_allNorms m_allClasses m_odd m_boxWide m_boxHigh m_boxStep m_partingMany m_qa m_qb m_la m_lb m_sa m_sb m_ta m_tb m_listed m_bits m_power2 m_rings m_ringA m_ringB m_seedNow m_tape m_has m_keptHas m_first m_second m_keptFirst m_keptSecond m_pa m_pb m_pNorm m_cubed m_isOpen m_signs m_often m_la0 m_lb0 R  y136.1 m_wanted y136.2 v2 v4 _ _ _ X (lv_sub hl [0, 1, 2] rfl) hf
set_option maxHeartbeats 4000000 in
set_option maxRecDepth 100000 in
theorem w_X11_letter_95 {E : KE} {A : Nat → Prop} {D : va_G} {T : KT} (h : Nat → Nat) (C : kx_C E cX11_letter 5 (some .int) RX11 2 45 D T) (N : Nat) (x : Int32 × Int32 × Int32 × Int32) (m_taped m_states : Int32) (m_ra m_rb : Int64) (m_threes m_primes m_ones m_unit : Int32) (m_allParts m_allNorms m_allClasses : Int64) (m_odd : Int32) (m_boxWide m_boxHigh m_boxStep : Int64) (m_partingMany : Int32) (m_qa m_qb m_la m_lb m_sa m_sb m_ta m_tb : Int64) (m_listed : Int32) (m_bits : Int64) (m_power2 m_rings m_ringA m_ringB m_seedNow : Int32) (m_tape m_has m_keptHas m_first m_second m_keptFirst m_keptSecond m_pa m_pb m_pNorm m_cubed m_isOpen m_signs m_often m_la0 m_lb0 : Nat → Int32) (R : kx_RI E cX11_letter D A (wM T h m_taped m_states m_ra m_rb m_threes m_primes m_ones m_unit m_allParts m_allNorms m_allClasses m_odd m_boxWide m_boxHigh m_boxStep m_partingMany m_qa m_qb m_la m_lb m_sa m_sb m_ta m_tb m_listed x.2.1 x.2.2.1 x.2.2.2 m_bits m_power2 m_rings m_ringA m_ringB m_seedNow m_tape m_has m_keptHas m_first m_second m_keptFirst m_keptSecond m_pa m_pb m_pNorm m_cubed m_isOpen m_signs m_often m_la0 m_lb0) x.1) : ∀ (m_tells m_wanted m_found : Int32) (v2 v3 v4 : Int32) (H : Heap) (locs : List Loc) (ls : Array Slot), kx_H E D A H locs (wM T h m_taped m_states m_ra m_rb m_threes m_primes m_ones m_unit m_allParts m_allNorms m_allClasses m_odd m_boxWide m_boxHigh m_boxStep m_partingMany m_qa m_qb m_la m_lb m_sa m_sb m_ta m_tb m_listed m_tells m_wanted m_found m_bits m_power2 m_rings m_ringA m_ringB m_seedNow m_tape m_has m_keptHas m_first m_second m_keptFirst m_keptSecond m_pa m_pb m_pNorm m_cubed m_isOpen m_signs m_often m_la0 m_lb0) → lv_has ls 5 [(0, .ref (h 0)), (2, .int v2), (3, .int v3), (4, .int v4)] → f_X11_letter_95 N v2 v3 v4 m_tells m_wanted m_found = some x → kx_W E H locs 95 ls [] := by
  intro m_tells m_wanted m_found v2 v3 v4 H locs ls X hl hf
  rw [f_X11_letter_95] at hf
  refine x_iload 97 C dX11_letter_95 hl 3 rfl rfl ?_
  refine x_if_le 110 100 C dX11_letter_97 rfl rfl hf (fun hf => ?_) (fun hf => ?_)
  · refine x_iload 112 C dX11_letter_110 hl 3 rfl rfl ?_
    refine x_iconst 113 C dX11_letter_112 (1 : Int32) kv_iconst_1 rfl ?_
    refine x_icmp_gt 122 116 C dX11_letter_113 rfl rfl hf (fun hf => ?_) (fun hf => ?_)
    · exact w_X11_letter_122 h C N x m_taped m_states m_ra m_rb m_threes m_primes m_ones m_unit m_allParts m_allNorms m_allClasses m_odd m_boxWide m_boxHigh m_boxStep m_partingMany m_qa m_qb m_la m_lb m_sa m_sb m_ta m_tb m_listed m_bits m_power2 m_rings m_ringA m_ringB m_seedNow m_tape m_has m_keptHas m_first m_second m_keptFirst m_keptSecond m_pa m_pb m_pNorm m_cubed m_isOpen m_signs m_often m_la0 m_lb0 R  m_tells m_wanted m_found v2 v4 _ _ _ X (lv_sub hl [0, 1, 3] rfl) hf
    refine x_iload 118 C dX11_letter_116 hl 3 rfl rfl ?_
    refine x_iconst 119 C dX11_letter_118 (-1 : Int32) kv_iconst_m1 rfl ?_
    refine x_icmp_ge 139 122 C dX11_letter_119 rfl rfl hf (fun hf => ?_) (fun hf => ?_)
    · exact w_X11_letter_139 h C N x m_taped m_states m_ra m_rb m_threes m_primes m_ones m_unit m_allParts m_allNorms m_allClasses m_odd m_boxWide m_boxHigh m_boxStep m_partingMany m_qa m_qb m_la m_lb m_sa m_sb m_ta m_tb m_listed m_bits m_power2 m_rings m_ringA m_ringB m_seedNow m_tape m_has m_keptHas m_first m_second m_keptFirst m_keptSecond m_pa m_pb m_pNorm m_cubed m_isOpen m_signs m_often m_la0 m_lb0 R  m_tells m_wanted m_found v2 v4 _ _ _ X (lv_sub hl [0, 1, 3] rfl) hf
    exact w_X11_letter_122 h C N x m_taped m_states m_ra m_rb m_threes m_primes m_ones m_unit m_allParts m_allNorms m_allClasses m_odd m_boxWide m_boxHigh m_boxStep m_partingMany m_qa m_qb m_la m_lb m_sa m_sb m_ta m_tb m_listed m_bits m_power2 m_rings m_ringA m_ringB m_seedNow m_tape m_has m_keptHas m_first m_second m_keptFirst m_keptSecond m_pa m_pb m_pNorm m_cubed m_isOpen m_signs m_often m_la0 m_lb0 R  m_tells m_wanted m_found v2 v4 _ _ _ X (lv_sub hl [0, 1, 3] rfl) hf
  refine x_iload_n 101 C dX11_letter_100 hl 2 rfl rfl ?_
  refine x_if_eq 110 104 C dX11_letter_101 rfl rfl hf (fun hf => ?_) (fun hf => ?_)
  · refine x_iload 112 C dX11_letter_110 hl 3 rfl rfl ?_
    refine x_iconst 113 C dX11_letter_112 (1 : Int32) kv_iconst_1 rfl ?_
    refine x_icmp_gt 122 116 C dX11_letter_113 rfl rfl hf (fun hf => ?_) (fun hf => ?_)
    · exact w_X11_letter_122 h C N x m_taped m_states m_ra m_rb m_threes m_primes m_ones m_unit m_allParts m_allNorms m_allClasses m_odd m_boxWide m_boxHigh m_boxStep m_partingMany m_qa m_qb m_la m_lb m_sa m_sb m_ta m_tb m_listed m_bits m_power2 m_rings m_ringA m_ringB m_seedNow m_tape m_has m_keptHas m_first m_second m_keptFirst m_keptSecond m_pa m_pb m_pNorm m_cubed m_isOpen m_signs m_often m_la0 m_lb0 R  m_tells m_wanted m_found v2 v4 _ _ _ X (lv_sub hl [0, 1, 3] rfl) hf
    refine x_iload 118 C dX11_letter_116 hl 3 rfl rfl ?_
    refine x_iconst 119 C dX11_letter_118 (-1 : Int32) kv_iconst_m1 rfl ?_
    refine x_icmp_ge 139 122 C dX11_letter_119 rfl rfl hf (fun hf => ?_) (fun hf => ?_)
    · exact w_X11_letter_139 h C N x m_taped m_states m_ra m_rb m_threes m_primes m_ones m_unit m_allParts m_allNorms m_allClasses m_odd m_boxWide m_boxHigh m_boxStep m_partingMany m_qa m_qb m_la m_lb m_sa m_sb m_ta m_tb m_listed m_bits m_power2 m_rings m_ringA m_ringB m_seedNow m_tape m_has m_keptHas m_first m_second m_keptFirst m_keptSecond m_pa m_pb m_pNorm m_cubed m_isOpen m_signs m_often m_la0 m_lb0 R  m_tells m_wanted m_found v2 v4 _ _ _ X (lv_sub hl [0, 1, 3] rfl) hf
    exact w_X11_letter_122 h C N x m_taped m_states m_ra m_rb m_threes m_primes m_ones m_unit m_allParts m_allNorms m_allClasses m_odd m_boxWide m_boxHigh m_boxStep m_partingMany m_qa m_qb m_la m_lb m_sa m_sb m_ta m_tb m_listed m_bits m_power2 m_rings m_ringA m_ringB m_seedNow m_tape m_has m_keptHas m_first m_second m_keptFirst m_keptSecond m_pa m_pb m_pNorm m_cubed m_isOpen m_signs m_often m_la0 m_lb0 R  m_tells m_wanted m_found v2 v4 _ _ _ X (lv_sub hl [0, 1, 3] rfl) hf
  refine x_aload_n 105 C dX11_letter_104 hl 0 rfl rfl ?_
  refine x_bipush 107 C dX11_letter_105 (43 : Int32) kv_bipush_43 rfl ?_
  obtain ⟨y107, hy107, hf⟩ := kx_bind hf
  refine x_callVv0 110 C dX11_letter_107 X hl kl_X11_408 (c_X11_letters E.2.1 D T h (43 : Int32) m_taped m_states m_ra m_rb m_threes m_primes m_ones m_unit m_allParts m_allNorms m_allClasses m_odd m_boxWide m_boxHigh m_boxStep m_partingMany m_qa m_qb m_la m_lb m_sa m_sb m_ta m_tb m_listed m_tells m_wanted m_found m_bits m_power2 m_rings m_ringA m_ringB m_seedNow m_tape m_has m_keptHas m_first m_second m_keptFirst m_keptSecond m_pa m_pb m_pNorm m_cubed m_isOpen m_signs m_often m_la0 m_lb0 y107 hy107) rfl rfl [] rfl rfl rfl rfl rfl rfl (fun H locs X => ?_)
  refine x_iload 112 C dX11_letter_110 hl 3 rfl rfl ?_
  refine x_iconst 113 C dX11_letter_112 (1 : Int32) kv_iconst_1 rfl ?_
  refine x_icmp_gt 122 116 C dX11_letter_113 rfl rfl hf (fun hf => ?_) (fun hf => ?_)
  · exact w_X11_letter_122 h C N x m_taped m_states m_ra m_rb m_threes m_primes m_ones m_unit m_allParts m_allNorms m_allClasses m_odd m_boxWide m_boxHigh m_boxStep m_partingMany m_qa m_qb m_la m_lb m_sa m_sb m_ta m_tb m_listed m_bits m_power2 m_rings m_ringA m_ringB m_seedNow m_tape m_has m_keptHas m_first m_second m_keptFirst m_keptSecond m_pa m_pb m_pNorm m_cubed m_isOpen m_signs m_often m_la0 m_lb0 R  y107.1 m_wanted y107.2 v2 v4 _ _ _ X (lv_sub hl [0, 1, 3] rfl) hf
  refine x_iload 118 C dX11_letter_116 hl 3 rfl rfl ?_
  refine x_iconst 119 C dX11_letter_118 (-1 : Int32) kv_iconst_m1 rfl ?_
  refine x_icmp_ge 139 122 C dX11_letter_119 rfl rfl hf (fun hf => ?_) (fun hf => ?_)
  · exact w_X11_letter_139 h C N x m_taped m_states m_ra m_rb m_threes m_primes m_ones m_unit m_allParts m_allNorms m_allClasses m_odd m_boxWide m_boxHigh m_boxStep m_partingMany m_qa m_qb m_la m_lb m_sa m_sb m_ta m_tb m_listed m_bits m_power2 m_rings m_ringA m_ringB m_seedNow m_tape m_has m_keptHas m_first m_second m_keptFirst m_keptSecond m_pa m_pb m_pNorm m_cubed m_isOpen m_signs m_often m_la0 m_lb0 R  y107.1 m_wanted y107.2 v2 v4 _ _ _ X (lv_sub hl [0, 1, 3] rfl) hf
  exact w_X11_letter_122 h C N x m_taped m_states m_ra m_rb m_threes m_primes m_ones m_unit m_allParts m_allNorms m_allClasses m_odd m_boxWide m_boxHigh m_boxStep m_partingMany m_qa m_qb m_la m_lb m_sa m_sb m_ta m_tb m_listed m_bits m_power2 m_rings m_ringA m_ringB m_seedNow m_tape m_has m_keptHas m_first m_second m_keptFirst m_keptSecond m_pa m_pb m_pNorm m_cubed m_isOpen m_signs m_often m_la0 m_lb0 R  y107.1 m_wanted y107.2 v2 v4 _ _ _ X (lv_sub hl [0, 1, 3] rfl) hf
set_option maxHeartbeats 4000000 in
set_option maxRecDepth 100000 in
theorem w_X11_letter_84 {E : KE} {A : Nat → Prop} {D : va_G} {T : KT} (h : Nat → Nat) (C : kx_C E cX11_letter 5 (some .int) RX11 2 45 D T) (N : Nat) (x : Int32 × Int32 × Int32 × Int32) (m_taped m_states : Int32) (m_ra m_rb : Int64) (m_threes m_primes m_ones m_unit : Int32) (m_allParts m_allNorms m_allClasses : Int64) (m_odd : Int32) (m_boxWide m_boxHigh m_boxStep : Int64) (m_partingMany : Int32) (m_qa m_qb m_la m_lb m_sa m_sb m_ta m_tb : Int64) (m_listed : Int32) (m_bits : Int64) (m_power2 m_rings m_ringA m_ringB m_seedNow : Int32) (m_tape m_has m_keptHas m_first m_second m_keptFirst m_keptSecond m_pa m_pb m_pNorm m_cubed m_isOpen m_signs m_often m_la0 m_lb0 : Nat → Int32) (R : kx_RI E cX11_letter D A (wM T h m_taped m_states m_ra m_rb m_threes m_primes m_ones m_unit m_allParts m_allNorms m_allClasses m_odd m_boxWide m_boxHigh m_boxStep m_partingMany m_qa m_qb m_la m_lb m_sa m_sb m_ta m_tb m_listed x.2.1 x.2.2.1 x.2.2.2 m_bits m_power2 m_rings m_ringA m_ringB m_seedNow m_tape m_has m_keptHas m_first m_second m_keptFirst m_keptSecond m_pa m_pb m_pNorm m_cubed m_isOpen m_signs m_often m_la0 m_lb0) x.1) : ∀ (m_tells m_wanted m_found : Int32) (v2 v3 v4 : Int32) (H : Heap) (locs : List Loc) (ls : Array Slot), kx_H E D A H locs (wM T h m_taped m_states m_ra m_rb m_threes m_primes m_ones m_unit m_allParts m_allNorms m_allClasses m_odd m_boxWide m_boxHigh m_boxStep m_partingMany m_qa m_qb m_la m_lb m_sa m_sb m_ta m_tb m_listed m_tells m_wanted m_found m_bits m_power2 m_rings m_ringA m_ringB m_seedNow m_tape m_has m_keptHas m_first m_second m_keptFirst m_keptSecond m_pa m_pb m_pNorm m_cubed m_isOpen m_signs m_often m_la0 m_lb0) → lv_has ls 5 [(0, .ref (h 0)), (2, .int v2), (3, .int v3), (4, .int v4)] → f_X11_letter_84 N v2 v3 v4 m_tells m_wanted m_found = some x → kx_W E H locs 84 ls [] := by
  intro m_tells m_wanted m_found v2 v3 v4 H locs ls X hl hf
  rw [f_X11_letter_84] at hf
  refine x_iload 86 C dX11_letter_84 hl 3 rfl rfl ?_
  refine x_if_ge 95 89 C dX11_letter_86 rfl rfl hf (fun hf => ?_) (fun hf => ?_)
  · exact w_X11_letter_95 h C N x m_taped m_states m_ra m_rb m_threes m_primes m_ones m_unit m_allParts m_allNorms m_allClasses m_odd m_boxWide m_boxHigh m_boxStep m_partingMany m_qa m_qb m_la m_lb m_sa m_sb m_ta m_tb m_listed m_bits m_power2 m_rings m_ringA m_ringB m_seedNow m_tape m_has m_keptHas m_first m_second m_keptFirst m_keptSecond m_pa m_pb m_pNorm m_cubed m_isOpen m_signs m_often m_la0 m_lb0 R  m_tells m_wanted m_found v2 v3 v4 _ _ _ X (lv_sub hl [0, 1, 2, 3] rfl) hf
  refine x_aload_n 90 C dX11_letter_89 hl 0 rfl rfl ?_
  refine x_bipush 92 C dX11_letter_90 (45 : Int32) kv_bipush_45 rfl ?_
  obtain ⟨y92, hy92, hf⟩ := kx_bind hf
  refine x_callVv0 95 C dX11_letter_92 X hl kl_X11_408 (c_X11_letters E.2.1 D T h (45 : Int32) m_taped m_states m_ra m_rb m_threes m_primes m_ones m_unit m_allParts m_allNorms m_allClasses m_odd m_boxWide m_boxHigh m_boxStep m_partingMany m_qa m_qb m_la m_lb m_sa m_sb m_ta m_tb m_listed m_tells m_wanted m_found m_bits m_power2 m_rings m_ringA m_ringB m_seedNow m_tape m_has m_keptHas m_first m_second m_keptFirst m_keptSecond m_pa m_pb m_pNorm m_cubed m_isOpen m_signs m_often m_la0 m_lb0 y92 hy92) rfl rfl [] rfl rfl rfl rfl rfl rfl (fun H locs X => ?_)
  exact w_X11_letter_95 h C N x m_taped m_states m_ra m_rb m_threes m_primes m_ones m_unit m_allParts m_allNorms m_allClasses m_odd m_boxWide m_boxHigh m_boxStep m_partingMany m_qa m_qb m_la m_lb m_sa m_sb m_ta m_tb m_listed m_bits m_power2 m_rings m_ringA m_ringB m_seedNow m_tape m_has m_keptHas m_first m_second m_keptFirst m_keptSecond m_pa m_pb m_pNorm m_cubed m_isOpen m_signs m_often m_la0 m_lb0 R  y92.1 m_wanted y92.2 v2 v3 v4 _ _ _ X (lv_sub hl [0, 1, 2, 3] rfl) hf
set_option maxHeartbeats 4000000 in
set_option maxRecDepth 100000 in
theorem w_X11_letter_70 {E : KE} {A : Nat → Prop} {D : va_G} {T : KT} (h : Nat → Nat) (C : kx_C E cX11_letter 5 (some .int) RX11 2 45 D T) (N : Nat) (x : Int32 × Int32 × Int32 × Int32) (m_taped m_states : Int32) (m_ra m_rb : Int64) (m_threes m_primes m_ones m_unit : Int32) (m_allParts m_allNorms m_allClasses : Int64) (m_odd : Int32) (m_boxWide m_boxHigh m_boxStep : Int64) (m_partingMany : Int32) (m_qa m_qb m_la m_lb m_sa m_sb m_ta m_tb : Int64) (m_listed : Int32) (m_bits : Int64) (m_power2 m_rings m_ringA m_ringB m_seedNow : Int32) (m_tape m_has m_keptHas m_first m_second m_keptFirst m_keptSecond m_pa m_pb m_pNorm m_cubed m_isOpen m_signs m_often m_la0 m_lb0 : Nat → Int32) (R : kx_RI E cX11_letter D A (wM T h m_taped m_states m_ra m_rb m_threes m_primes m_ones m_unit m_allParts m_allNorms m_allClasses m_odd m_boxWide m_boxHigh m_boxStep m_partingMany m_qa m_qb m_la m_lb m_sa m_sb m_ta m_tb m_listed x.2.1 x.2.2.1 x.2.2.2 m_bits m_power2 m_rings m_ringA m_ringB m_seedNow m_tape m_has m_keptHas m_first m_second m_keptFirst m_keptSecond m_pa m_pb m_pNorm m_cubed m_isOpen m_signs m_often m_la0 m_lb0) x.1) : ∀ (m_tells m_wanted m_found : Int32) (v2 v3 v4 : Int32) (H : Heap) (locs : List Loc) (ls : Array Slot), kx_H E D A H locs (wM T h m_taped m_states m_ra m_rb m_threes m_primes m_ones m_unit m_allParts m_allNorms m_allClasses m_odd m_boxWide m_boxHigh m_boxStep m_partingMany m_qa m_qb m_la m_lb m_sa m_sb m_ta m_tb m_listed m_tells m_wanted m_found m_bits m_power2 m_rings m_ringA m_ringB m_seedNow m_tape m_has m_keptHas m_first m_second m_keptFirst m_keptSecond m_pa m_pb m_pNorm m_cubed m_isOpen m_signs m_often m_la0 m_lb0) → lv_has ls 5 [(0, .ref (h 0)), (2, .int v2), (3, .int v3), (4, .int v4)] → f_X11_letter_70 N v2 v3 v4 m_tells m_wanted m_found = some x → kx_W E H locs 70 ls [] := by
  intro m_tells m_wanted m_found v2 v3 v4 H locs ls X hl hf
  rw [f_X11_letter_70] at hf
  refine x_aload_n 71 C dX11_letter_70 hl 0 rfl rfl ?_
  refine x_iload_n 72 C dX11_letter_71 hl 2 rfl rfl ?_
  refine x_if_ge 80 75 C dX11_letter_72 rfl rfl hf (fun hf => ?_) (fun hf => ?_)
  · refine x_iload_n 81 C dX11_letter_80 hl 2 rfl rfl ?_
    obtain ⟨y81, hy81, hf⟩ := kx_bind hf
    refine x_callVv0 84 C dX11_letter_81 X hl kl_X11_411 (c_X11_digits E.2.1 D T h N v3 m_taped m_states m_ra m_rb m_threes m_primes m_ones m_unit m_allParts m_allNorms m_allClasses m_odd m_boxWide m_boxHigh m_boxStep m_partingMany m_qa m_qb m_la m_lb m_sa m_sb m_ta m_tb m_listed m_tells m_wanted m_found m_bits m_power2 m_rings m_ringA m_ringB m_seedNow m_tape m_has m_keptHas m_first m_second m_keptFirst m_keptSecond m_pa m_pb m_pNorm m_cubed m_isOpen m_signs m_often m_la0 m_lb0 y81 hy81) rfl rfl [] rfl rfl rfl rfl rfl rfl (fun H locs X => ?_)
    exact w_X11_letter_84 h C N x m_taped m_states m_ra m_rb m_threes m_primes m_ones m_unit m_allParts m_allNorms m_allClasses m_odd m_boxWide m_boxHigh m_boxStep m_partingMany m_qa m_qb m_la m_lb m_sa m_sb m_ta m_tb m_listed m_bits m_power2 m_rings m_ringA m_ringB m_seedNow m_tape m_has m_keptHas m_first m_second m_keptFirst m_keptSecond m_pa m_pb m_pNorm m_cubed m_isOpen m_signs m_often m_la0 m_lb0 R  y81.1 m_wanted y81.2 v2 v3 v4 _ _ _ X (lv_sub hl [0, 1, 2, 3] rfl) hf
  refine x_iload_n 76 C dX11_letter_75 hl 2 rfl rfl ?_
  refine x_ineg 77 C dX11_letter_76 rfl ?_
  refine x_goto 81 C dX11_letter_77 rfl ?_
  obtain ⟨y81, hy81, hf⟩ := kx_bind hf
  refine x_callVv0 84 C dX11_letter_81 X hl kl_X11_411 (c_X11_digits E.2.1 D T h N (-v3) m_taped m_states m_ra m_rb m_threes m_primes m_ones m_unit m_allParts m_allNorms m_allClasses m_odd m_boxWide m_boxHigh m_boxStep m_partingMany m_qa m_qb m_la m_lb m_sa m_sb m_ta m_tb m_listed m_tells m_wanted m_found m_bits m_power2 m_rings m_ringA m_ringB m_seedNow m_tape m_has m_keptHas m_first m_second m_keptFirst m_keptSecond m_pa m_pb m_pNorm m_cubed m_isOpen m_signs m_often m_la0 m_lb0 y81 hy81) rfl rfl [] rfl rfl rfl rfl rfl rfl (fun H locs X => ?_)
  exact w_X11_letter_84 h C N x m_taped m_states m_ra m_rb m_threes m_primes m_ones m_unit m_allParts m_allNorms m_allClasses m_odd m_boxWide m_boxHigh m_boxStep m_partingMany m_qa m_qb m_la m_lb m_sa m_sb m_ta m_tb m_listed m_bits m_power2 m_rings m_ringA m_ringB m_seedNow m_tape m_has m_keptHas m_first m_second m_keptFirst m_keptSecond m_pa m_pb m_pNorm m_cubed m_isOpen m_signs m_often m_la0 m_lb0 R  y81.1 m_wanted y81.2 v2 v3 v4 _ _ _ X (lv_sub hl [0, 1, 2, 3] rfl) hf
set_option maxHeartbeats 4000000 in
set_option maxRecDepth 100000 in
theorem c_X11_letter (l : Launch) (D : va_G) (T : KT) (h : Nat → Nat) (N : Nat) (v1 v2 : Int32) (m_taped m_states : Int32) (m_ra m_rb : Int64) (m_threes m_primes m_ones m_unit : Int32) (m_allParts m_allNorms m_allClasses : Int64) (m_odd : Int32) (m_boxWide m_boxHigh m_boxStep : Int64) (m_partingMany : Int32) (m_qa m_qb m_la m_lb m_sa m_sb m_ta m_tb : Int64) (m_listed m_tells m_wanted m_found : Int32) (m_bits : Int64) (m_power2 m_rings m_ringA m_ringB m_seedNow : Int32) (m_tape m_has m_keptHas m_first m_second m_keptFirst m_keptSecond m_pa m_pb m_pNorm m_cubed m_isOpen m_signs m_often m_la0 m_lb0 : Nat → Int32) (x : Int32 × Int32 × Int32 × Int32) (hf : f_X11_letter N v1 v2 m_tells m_wanted m_found m_has m_first m_second = some x) : kx_MI l yX11_letter cX11_letter 5 (some .int) 2 45 D T [.ref (h 0), .int v1, .int v2] (wM T h m_taped m_states m_ra m_rb m_threes m_primes m_ones m_unit m_allParts m_allNorms m_allClasses m_odd m_boxWide m_boxHigh m_boxStep m_partingMany m_qa m_qb m_la m_lb m_sa m_sb m_ta m_tb m_listed m_tells m_wanted m_found m_bits m_power2 m_rings m_ringA m_ringB m_seedNow m_tape m_has m_keptHas m_first m_second m_keptFirst m_keptSecond m_pa m_pb m_pNorm m_cubed m_isOpen m_signs m_often m_la0 m_lb0) (wM T h m_taped m_states m_ra m_rb m_threes m_primes m_ones m_unit m_allParts m_allNorms m_allClasses m_odd m_boxWide m_boxHigh m_boxStep m_partingMany m_qa m_qb m_la m_lb m_sa m_sb m_ta m_tb m_listed x.2.1 x.2.2.1 x.2.2.2 m_bits m_power2 m_rings m_ringA m_ringB m_seedNow m_tape m_has m_keptHas m_first m_second m_keptFirst m_keptSecond m_pa m_pb m_pNorm m_cubed m_isOpen m_signs m_often m_la0 m_lb0) x.1 := by
  refine kx_ofMI RX11 rfl (plainFor_of_name (x := yX11_letter) kpn_X11) rfl ?_
  intro E A H ls _ C X R hl
  have hl : lv_has ls 5 [(0, .ref (h 0)), (1, .int v1), (2, .int v2)] := hl
  rw [f_X11_letter] at hf
  refine x_iload_n 1 C dX11_letter_0 hl 1 rfl rfl ?_
  obtain ⟨y1, hy1, hf⟩ := kx_bind hf
  refine x_callSi 4 C dX11_letter_1 X hl kl_X11_85 (c_X11_isDrawer E.2.1 D T  v1  y1 hy1) [] rfl rfl rfl rfl rfl cb_7 rfl (fun H locs X => ?_)
  refine x_if_eq 12 7 C dX11_letter_4 rfl rfl hf (fun hf => ?_) (fun hf => ?_)
  · refine x_iconst 13 C dX11_letter_12 (-1 : Int32) kv_iconst_m1 rfl ?_
    obtain rfl := Option.some.inj hf
    exact R _ _ _ _ X dX11_letter_13
  refine x_iload_n 8 C dX11_letter_7 hl 2 rfl rfl ?_
  refine x_iconst 9 C dX11_letter_8 (-1 : Int32) kv_iconst_m1 rfl ?_
  refine x_icmp_ge 14 12 C dX11_letter_9 rfl rfl hf (fun hf => ?_) (fun hf => ?_)
  · refine x_aload_n 15 C dX11_letter_14 hl 0 rfl rfl ?_
    refine x_get 18 C dX11_letter_15 X kf_X11_13 0 rfl rfl rfl ?_
    refine x_iload_n 19 C dX11_letter_18 hl 1 rfl rfl ?_
    refine x_zald 20 C dX11_letter_19 X 2 rfl hf rfl (fun hf => ?_)
    refine x_if_ne 26 23 C dX11_letter_20 rfl rfl hf (fun hf => ?_) (fun hf => ?_)
    · refine x_aload_n 27 C dX11_letter_26 hl 0 rfl rfl ?_
      refine x_get 30 C dX11_letter_27 X kf_X11_20 0 rfl rfl rfl ?_
      refine x_iload_n 31 C dX11_letter_30 hl 1 rfl rfl ?_
      refine x_iald 32 C dX11_letter_31 X 4 rfl hf rfl (fun hf => ?_)
      refine x_istore_n 33 C dX11_letter_32 [(3, .int (m_first (v1).toNatClampNeg)), (0, .ref (h 0)), (1, .int v1), (2, .int v2)] hl rfl rfl rfl (fun ls hl => ?_)
      refine x_aload_n 34 C dX11_letter_33 hl 1 rfl rfl ?_
      refine x_get 37 C dX11_letter_34 X kf_X11_24 0 rfl rfl rfl ?_
      refine x_iload_n 38 C dX11_letter_37 hl 2 rfl rfl ?_
      refine x_iald 39 C dX11_letter_38 X 5 rfl hf rfl (fun hf => ?_)
      refine x_istore 41 C dX11_letter_39 [(4, .int (m_second (v1).toNatClampNeg)), (3, .int (m_first (v1).toNatClampNeg)), (0, .ref (h 0)), (1, .int v1), (2, .int v2)] hl rfl rfl rfl (fun ls hl => ?_)
      refine x_aload_n 42 C dX11_letter_41 hl 2 rfl rfl ?_
      refine x_iconst 43 C dX11_letter_42 (0 : Int32) kv_iconst_0 rfl ?_
      refine x_put 46 C dX11_letter_43 X kp_X11_399 0 rfl rfl rfl rfl (wM T h m_taped m_states m_ra m_rb m_threes m_primes m_ones m_unit m_allParts m_allNorms m_allClasses m_odd m_boxWide m_boxHigh m_boxStep m_partingMany m_qa m_qb m_la m_lb m_sa m_sb m_ta m_tb m_listed (0 : Int32) m_wanted m_found m_bits m_power2 m_rings m_ringA m_ringB m_seedNow m_tape m_has m_keptHas m_first m_second m_keptFirst m_keptSecond m_pa m_pb m_pNorm m_cubed m_isOpen m_signs m_often m_la0 m_lb0) rfl rfl (fun H locs X => ?_)
      refine x_aload_n 47 C dX11_letter_46 hl 2 rfl rfl ?_
      refine x_iload_n 48 C dX11_letter_47 hl 4 rfl rfl ?_
      refine x_put 51 C dX11_letter_48 X kp_X11_402 0 rfl rfl rfl rfl (wM T h m_taped m_states m_ra m_rb m_threes m_primes m_ones m_unit m_allParts m_allNorms m_allClasses m_odd m_boxWide m_boxHigh m_boxStep m_partingMany m_qa m_qb m_la m_lb m_sa m_sb m_ta m_tb m_listed (0 : Int32) v2 m_found m_bits m_power2 m_rings m_ringA m_ringB m_seedNow m_tape m_has m_keptHas m_first m_second m_keptFirst m_keptSecond m_pa m_pb m_pNorm m_cubed m_isOpen m_signs m_often m_la0 m_lb0) rfl rfl (fun H locs X => ?_)
      refine x_iload_n 52 C dX11_letter_51 hl 1 rfl rfl ?_
      refine x_if_ge 61 55 C dX11_letter_52 rfl rfl hf (fun hf => ?_) (fun hf => ?_)
      · refine x_iload_n 62 C dX11_letter_61 hl 1 rfl rfl ?_
        refine x_if_ne 70 65 C dX11_letter_62 rfl rfl hf (fun hf => ?_) (fun hf => ?_)
        · exact w_X11_letter_70 h C N x m_taped m_states m_ra m_rb m_threes m_primes m_ones m_unit m_allParts m_allNorms m_allClasses m_odd m_boxWide m_boxHigh m_boxStep m_partingMany m_qa m_qb m_la m_lb m_sa m_sb m_ta m_tb m_listed m_bits m_power2 m_rings m_ringA m_ringB m_seedNow m_tape m_has m_keptHas m_first m_second m_keptFirst m_keptSecond m_pa m_pb m_pNorm m_cubed m_isOpen m_signs m_often m_la0 m_lb0 R  (0 : Int32) v2 m_found v2 (m_first (v1).toNatClampNeg) (m_second (v1).toNatClampNeg) _ _ _ X (lv_sub hl [2, 4, 1, 0] rfl) hf
        refine x_iload 67 C dX11_letter_65 hl 0 rfl rfl ?_
        refine x_if_ne 84 70 C dX11_letter_67 rfl rfl hf (fun hf => ?_) (fun hf => ?_)
        · exact w_X11_letter_84 h C N x m_taped m_states m_ra m_rb m_threes m_primes m_ones m_unit m_allParts m_allNorms m_allClasses m_odd m_boxWide m_boxHigh m_boxStep m_partingMany m_qa m_qb m_la m_lb m_sa m_sb m_ta m_tb m_listed m_bits m_power2 m_rings m_ringA m_ringB m_seedNow m_tape m_has m_keptHas m_first m_second m_keptFirst m_keptSecond m_pa m_pb m_pNorm m_cubed m_isOpen m_signs m_often m_la0 m_lb0 R  (0 : Int32) v2 m_found v2 (m_first (v1).toNatClampNeg) (m_second (v1).toNatClampNeg) _ _ _ X (lv_sub hl [2, 4, 1, 0] rfl) hf
        exact w_X11_letter_70 h C N x m_taped m_states m_ra m_rb m_threes m_primes m_ones m_unit m_allParts m_allNorms m_allClasses m_odd m_boxWide m_boxHigh m_boxStep m_partingMany m_qa m_qb m_la m_lb m_sa m_sb m_ta m_tb m_listed m_bits m_power2 m_rings m_ringA m_ringB m_seedNow m_tape m_has m_keptHas m_first m_second m_keptFirst m_keptSecond m_pa m_pb m_pNorm m_cubed m_isOpen m_signs m_often m_la0 m_lb0 R  (0 : Int32) v2 m_found v2 (m_first (v1).toNatClampNeg) (m_second (v1).toNatClampNeg) _ _ _ X (lv_sub hl [2, 4, 1, 0] rfl) hf
      refine x_aload_n 56 C dX11_letter_55 hl 2 rfl rfl ?_
      refine x_bipush 58 C dX11_letter_56 (45 : Int32) kv_bipush_45 rfl ?_
      obtain ⟨y58, hy58, hf⟩ := kx_bind hf
      refine x_callVv0 61 C dX11_letter_58 X hl kl_X11_408 (c_X11_letters E.2.1 D T h (45 : Int32) m_taped m_states m_ra m_rb m_threes m_primes m_ones m_unit m_allParts m_allNorms m_allClasses m_odd m_boxWide m_boxHigh m_boxStep m_partingMany m_qa m_qb m_la m_lb m_sa m_sb m_ta m_tb m_listed (0 : Int32) v2 m_found m_bits m_power2 m_rings m_ringA m_ringB m_seedNow m_tape m_has m_keptHas m_first m_second m_keptFirst m_keptSecond m_pa m_pb m_pNorm m_cubed m_isOpen m_signs m_often m_la0 m_lb0 y58 hy58) rfl rfl [] rfl rfl rfl rfl rfl rfl (fun H locs X => ?_)
      refine x_iload_n 62 C dX11_letter_61 hl 1 rfl rfl ?_
      refine x_if_ne 70 65 C dX11_letter_62 rfl rfl hf (fun hf => ?_) (fun hf => ?_)
      · exact w_X11_letter_70 h C N x m_taped m_states m_ra m_rb m_threes m_primes m_ones m_unit m_allParts m_allNorms m_allClasses m_odd m_boxWide m_boxHigh m_boxStep m_partingMany m_qa m_qb m_la m_lb m_sa m_sb m_ta m_tb m_listed m_bits m_power2 m_rings m_ringA m_ringB m_seedNow m_tape m_has m_keptHas m_first m_second m_keptFirst m_keptSecond m_pa m_pb m_pNorm m_cubed m_isOpen m_signs m_often m_la0 m_lb0 R  y58.1 v2 y58.2 v2 (m_first (v1).toNatClampNeg) (m_second (v1).toNatClampNeg) _ _ _ X (lv_sub hl [2, 4, 1, 0] rfl) hf
      refine x_iload 67 C dX11_letter_65 hl 0 rfl rfl ?_
      refine x_if_ne 84 70 C dX11_letter_67 rfl rfl hf (fun hf => ?_) (fun hf => ?_)
      · exact w_X11_letter_84 h C N x m_taped m_states m_ra m_rb m_threes m_primes m_ones m_unit m_allParts m_allNorms m_allClasses m_odd m_boxWide m_boxHigh m_boxStep m_partingMany m_qa m_qb m_la m_lb m_sa m_sb m_ta m_tb m_listed m_bits m_power2 m_rings m_ringA m_ringB m_seedNow m_tape m_has m_keptHas m_first m_second m_keptFirst m_keptSecond m_pa m_pb m_pNorm m_cubed m_isOpen m_signs m_often m_la0 m_lb0 R  y58.1 v2 y58.2 v2 (m_first (v1).toNatClampNeg) (m_second (v1).toNatClampNeg) _ _ _ X (lv_sub hl [2, 4, 1, 0] rfl) hf
      exact w_X11_letter_70 h C N x m_taped m_states m_ra m_rb m_threes m_primes m_ones m_unit m_allParts m_allNorms m_allClasses m_odd m_boxWide m_boxHigh m_boxStep m_partingMany m_qa m_qb m_la m_lb m_sa m_sb m_ta m_tb m_listed m_bits m_power2 m_rings m_ringA m_ringB m_seedNow m_tape m_has m_keptHas m_first m_second m_keptFirst m_keptSecond m_pa m_pb m_pNorm m_cubed m_isOpen m_signs m_often m_la0 m_lb0 R  y58.1 v2 y58.2 v2 (m_first (v1).toNatClampNeg) (m_second (v1).toNatClampNeg) _ _ _ X (lv_sub hl [2, 4, 1, 0] rfl) hf
    refine x_bipush 25 C dX11_letter_23 (-2 : Int32) kv_bipush_m2 rfl ?_
    obtain rfl := Option.some.inj hf
    exact R _ _ _ _ X dX11_letter_25
  refine x_iconst 13 C dX11_letter_12 (-1 : Int32) kv_iconst_m1 rfl ?_
  obtain rfl := Option.some.inj hf
  exact R _ _ _ _ X dX11_letter_13
set_option maxHeartbeats 4000000 in
set_option maxRecDepth 100000 in
theorem w_X10_length_51 {E : KE} {A : Nat → Prop} {D : va_G} {T : KT} (h : Nat → Nat) (C : kx_C E cX10_length 5 (some .int) RX10 2 46 D T) (N : Nat) (x : Int32 × Int64 × Int64) (m_drawers_full m_drawers_kept : Int32) (m_drawers_partA m_drawers_partB m_drawers_keptA m_drawers_keptB m_drawers_keptFull : Nat → Int32) (m_tape_size m_tape_plain m_tape_omegas m_tape_end m_tape_place m_tape_plainTold m_tape_omegasTold : Int32) (m_tape_bytes : Nat → Int32) (m_euclid_count : Int32) (m_euclid_last_a m_euclid_last_b m_euclid_lastOfFirst_a m_euclid_lastOfFirst_b m_euclid_lastOfSecond_a m_euclid_lastOfSecond_b m_euclid_next_a m_euclid_next_b m_euclid_nextOfFirst_a m_euclid_nextOfFirst_b m_euclid_nextOfSecond_a m_euclid_nextOfSecond_b m_euclid_q_a m_euclid_q_b : Int64) (m_euclid_quotientA m_euclid_quotientB : Nat → Int64) (m_modulus_step m_modulus_width m_modulus_slant m_modulus_square_a m_modulus_square_b : Int64) (m_factors_count m_factors_threes m_factors_unit : Int32) (m_factors_primeA m_factors_primeB m_factors_norms : Nat → Int64) (m_factors_euclid_count : Int32) (m_factors_euclid_last_a m_factors_euclid_last_b m_factors_euclid_lastOfFirst_a m_factors_euclid_lastOfFirst_b m_factors_euclid_lastOfSecond_a m_factors_euclid_lastOfSecond_b m_factors_euclid_next_a m_factors_euclid_next_b m_factors_euclid_nextOfFirst_a m_factors_euclid_nextOfFirst_b m_factors_euclid_nextOfSecond_a m_factors_euclid_nextOfSecond_b m_factors_euclid_q_a m_factors_euclid_q_b : Int64) (m_factors_euclid_quotientA m_factors_euclid_quotientB : Nat → Int64) (m_factors_left_a m_factors_left_b m_factors_found_a m_factors_found_b m_factors_product_a m_factors_product_b : Int64) (m_primes_count : Int32) (m_primes_primeA m_primes_primeB : Nat → Int32) (m_primes_found_a m_primes_found_b : Int64) (m_rings_foundA m_rings_foundB m_rings_all m_rings_mostOfOneRow m_letters_count : Int32) (m_letters_bytes : Nat → Int32) (m_two_a m_two_b m_three_a m_three_b m_four_a m_four_b m_out_a m_out_b m_spare_a m_spare_b : Int64) (m_marks : Nat → Int32) (R : kx_RI E cX10_length D A (wC T h m_drawers_full m_drawers_kept m_drawers_partA m_drawers_partB m_drawers_keptA m_drawers_keptB m_drawers_keptFull m_tape_size m_tape_plain m_tape_omegas m_tape_end m_tape_place m_tape_plainTold m_tape_omegasTold m_tape_bytes m_euclid_count m_euclid_last_a m_euclid_last_b m_euclid_lastOfFirst_a m_euclid_lastOfFirst_b m_euclid_lastOfSecond_a m_euclid_lastOfSecond_b m_euclid_next_a m_euclid_next_b m_euclid_nextOfFirst_a m_euclid_nextOfFirst_b m_euclid_nextOfSecond_a m_euclid_nextOfSecond_b m_euclid_q_a m_euclid_q_b m_euclid_quotientA m_euclid_quotientB m_modulus_step m_modulus_width m_modulus_slant m_modulus_square_a m_modulus_square_b m_factors_count m_factors_threes m_factors_unit m_factors_primeA m_factors_primeB m_factors_norms m_factors_euclid_count m_factors_euclid_last_a m_factors_euclid_last_b m_factors_euclid_lastOfFirst_a m_factors_euclid_lastOfFirst_b m_factors_euclid_lastOfSecond_a m_factors_euclid_lastOfSecond_b m_factors_euclid_next_a m_factors_euclid_next_b m_factors_euclid_nextOfFirst_a m_factors_euclid_nextOfFirst_b m_factors_euclid_nextOfSecond_a m_factors_euclid_nextOfSecond_b m_factors_euclid_q_a m_factors_euclid_q_b m_factors_euclid_quotientA m_factors_euclid_quotientB m_factors_left_a m_factors_left_b m_factors_found_a m_factors_found_b m_factors_product_a m_factors_product_b m_primes_count m_primes_primeA m_primes_primeB m_primes_found_a m_primes_found_b m_rings_foundA m_rings_foundB m_rings_all m_rings_mostOfOneRow m_letters_count m_letters_bytes x.2.1 x.2.2 m_two_a m_two_b m_three_a m_three_b m_four_a m_four_b m_out_a m_out_b m_spare_a m_spare_b m_marks) x.1) : ∀ (k : Nat), ∀ (m_one_a m_one_b : Int64) (v2 v3 : UInt32) (v4 : Int32) (H : Heap) (locs : List Loc) (ls : Array Slot), kx_H E D A H locs (wC T h m_drawers_full m_drawers_kept m_drawers_partA m_drawers_partB m_drawers_keptA m_drawers_keptB m_drawers_keptFull m_tape_size m_tape_plain m_tape_omegas m_tape_end m_tape_place m_tape_plainTold m_tape_omegasTold m_tape_bytes m_euclid_count m_euclid_last_a m_euclid_last_b m_euclid_lastOfFirst_a m_euclid_lastOfFirst_b m_euclid_lastOfSecond_a m_euclid_lastOfSecond_b m_euclid_next_a m_euclid_next_b m_euclid_nextOfFirst_a m_euclid_nextOfFirst_b m_euclid_nextOfSecond_a m_euclid_nextOfSecond_b m_euclid_q_a m_euclid_q_b m_euclid_quotientA m_euclid_quotientB m_modulus_step m_modulus_width m_modulus_slant m_modulus_square_a m_modulus_square_b m_factors_count m_factors_threes m_factors_unit m_factors_primeA m_factors_primeB m_factors_norms m_factors_euclid_count m_factors_euclid_last_a m_factors_euclid_last_b m_factors_euclid_lastOfFirst_a m_factors_euclid_lastOfFirst_b m_factors_euclid_lastOfSecond_a m_factors_euclid_lastOfSecond_b m_factors_euclid_next_a m_factors_euclid_next_b m_factors_euclid_nextOfFirst_a m_factors_euclid_nextOfFirst_b m_factors_euclid_nextOfSecond_a m_factors_euclid_nextOfSecond_b m_factors_euclid_q_a m_factors_euclid_q_b m_factors_euclid_quotientA m_factors_euclid_quotientB m_factors_left_a m_factors_left_b m_factors_found_a m_factors_found_b m_factors_product_a m_factors_product_b m_primes_count m_primes_primeA m_primes_primeB m_primes_found_a m_primes_found_b m_rings_foundA m_rings_foundB m_rings_all m_rings_mostOfOneRow m_letters_count m_letters_bytes m_one_a m_one_b m_two_a m_two_b m_three_a m_three_b m_four_a m_four_b m_out_a m_out_b m_spare_a m_spare_b m_marks) → lv_has ls 5 [(2, .float v2), (3, .float v3), (4, .int v4)] → f_X10_length_51 N k v2 v3 v4 m_one_a m_one_b = some x → kx_W E H locs 51 ls [] := by
  intro k
  induction k with
  | zero =>
    intro m_one_a m_one_b v2 v3 v4 H locs ls X hl hf
    cases (show (none : Option (Int32 × Int64 × Int64)) = some x from hf)
  | succ k ih =>
    intro m_one_a m_one_b v2 v3 v4 H locs ls X hl hf
    rw [f_X10_length_51] at hf
    refine x_iload 53 C dX10_length_51 hl 2 rfl rfl ?_
    refine x_bipush 55 C dX10_length_53 (6 : Int32) kv_bipush_6 rfl ?_
    refine x_icmp_ge 78 58 C dX10_length_55 rfl rfl hf (fun hf => ?_) (fun hf => ?_)
    · refine x_fload_n 79 C dX10_length_78 hl 1 rfl rfl ?_
      refine x_ldcf_w 82 C dX10_length_79 (1148846080 : UInt32) kc_X10_429 rfl ?_
      refine x_fmul 83 C dX10_length_82 hf rfl (fun hf => ?_)
      refine x_f2i 84 C dX10_length_83 rfl ?_
      obtain rfl := Option.some.inj hf
      exact R _ _ _ _ X dX10_length_84
    refine x_fload_n 59 C dX10_length_58 hl 1 rfl rfl ?_
    refine x_fconst0 60 C dX10_length_59 rfl ?_
    refine x_fcmp 61 C dX10_length_60 rfl ?_
    refine x_if_le 78 64 C dX10_length_61 rfl rfl hf (fun hf => ?_) (fun hf => ?_)
    · refine x_fload_n 79 C dX10_length_78 hl 1 rfl rfl ?_
      refine x_ldcf_w 82 C dX10_length_79 (1148846080 : UInt32) kc_X10_429 rfl ?_
      refine x_fmul 83 C dX10_length_82 hf rfl (fun hf => ?_)
      refine x_f2i 84 C dX10_length_83 rfl ?_
      obtain rfl := Option.some.inj hf
      exact R _ _ _ _ X dX10_length_84
    refine x_fload_n 65 C dX10_length_64 hl 1 rfl rfl ?_
    refine x_fload_n 66 C dX10_length_65 hl 0 rfl rfl ?_
    refine x_fload_n 67 C dX10_length_66 hl 1 rfl rfl ?_
    refine x_fdiv 68 C dX10_length_67 hf rfl (fun hf => ?_)
    refine x_fadd 69 C dX10_length_68 hf rfl (fun hf => ?_)
    refine x_fconst2 70 C dX10_length_69 rfl ?_
    refine x_fdiv 71 C dX10_length_70 hf rfl (fun hf => ?_)
    refine x_fstore_n 72 C dX10_length_71 [(3, .float (FP.fdiv (FP.fadd v3 (FP.fdiv v2 v3)) (0x40000000 : UInt32))), (2, .float v2), (4, .int v4)] hl rfl rfl rfl (fun ls hl => ?_)
    refine x_iinc 75 C dX10_length_72 (1 : Int32) kv_iconst_1 [(4, .int (v4 + (1 : Int32))), (3, .float (FP.fdiv (FP.fadd v3 (FP.fdiv v2 v3)) (0x40000000 : UInt32))), (2, .float v2)] hl 2 rfl rfl rfl rfl (fun ls hl => ?_)
    refine x_goto 51 C dX10_length_75 rfl ?_
    exact ih m_one_a m_one_b v2 (FP.fdiv (FP.fadd v3 (FP.fdiv v2 v3)) (0x40000000 : UInt32)) (v4 + (1 : Int32)) _ _ _ X (lv_sub hl [2, 1, 0] rfl) hf
set_option maxHeartbeats 4000000 in
set_option maxRecDepth 100000 in
theorem c_X10_length (l : Launch) (D : va_G) (T : KT) (h : Nat → Nat) (N : Nat) (v1 : Int32) (m_drawers_full m_drawers_kept : Int32) (m_drawers_partA m_drawers_partB m_drawers_keptA m_drawers_keptB m_drawers_keptFull : Nat → Int32) (m_tape_size m_tape_plain m_tape_omegas m_tape_end m_tape_place m_tape_plainTold m_tape_omegasTold : Int32) (m_tape_bytes : Nat → Int32) (m_euclid_count : Int32) (m_euclid_last_a m_euclid_last_b m_euclid_lastOfFirst_a m_euclid_lastOfFirst_b m_euclid_lastOfSecond_a m_euclid_lastOfSecond_b m_euclid_next_a m_euclid_next_b m_euclid_nextOfFirst_a m_euclid_nextOfFirst_b m_euclid_nextOfSecond_a m_euclid_nextOfSecond_b m_euclid_q_a m_euclid_q_b : Int64) (m_euclid_quotientA m_euclid_quotientB : Nat → Int64) (m_modulus_step m_modulus_width m_modulus_slant m_modulus_square_a m_modulus_square_b : Int64) (m_factors_count m_factors_threes m_factors_unit : Int32) (m_factors_primeA m_factors_primeB m_factors_norms : Nat → Int64) (m_factors_euclid_count : Int32) (m_factors_euclid_last_a m_factors_euclid_last_b m_factors_euclid_lastOfFirst_a m_factors_euclid_lastOfFirst_b m_factors_euclid_lastOfSecond_a m_factors_euclid_lastOfSecond_b m_factors_euclid_next_a m_factors_euclid_next_b m_factors_euclid_nextOfFirst_a m_factors_euclid_nextOfFirst_b m_factors_euclid_nextOfSecond_a m_factors_euclid_nextOfSecond_b m_factors_euclid_q_a m_factors_euclid_q_b : Int64) (m_factors_euclid_quotientA m_factors_euclid_quotientB : Nat → Int64) (m_factors_left_a m_factors_left_b m_factors_found_a m_factors_found_b m_factors_product_a m_factors_product_b : Int64) (m_primes_count : Int32) (m_primes_primeA m_primes_primeB : Nat → Int32) (m_primes_found_a m_primes_found_b : Int64) (m_rings_foundA m_rings_foundB m_rings_all m_rings_mostOfOneRow m_letters_count : Int32) (m_letters_bytes : Nat → Int32) (m_one_a m_one_b m_two_a m_two_b m_three_a m_three_b m_four_a m_four_b m_out_a m_out_b m_spare_a m_spare_b : Int64) (m_marks : Nat → Int32) (x : Int32 × Int64 × Int64) (hf : f_X10_length N v1 m_drawers_full m_drawers_partA m_drawers_partB m_one_a m_one_b = some x) : kx_MI l yX10_length cX10_length 5 (some .int) 2 46 D T [.ref (h 0), .int v1] (wC T h m_drawers_full m_drawers_kept m_drawers_partA m_drawers_partB m_drawers_keptA m_drawers_keptB m_drawers_keptFull m_tape_size m_tape_plain m_tape_omegas m_tape_end m_tape_place m_tape_plainTold m_tape_omegasTold m_tape_bytes m_euclid_count m_euclid_last_a m_euclid_last_b m_euclid_lastOfFirst_a m_euclid_lastOfFirst_b m_euclid_lastOfSecond_a m_euclid_lastOfSecond_b m_euclid_next_a m_euclid_next_b m_euclid_nextOfFirst_a m_euclid_nextOfFirst_b m_euclid_nextOfSecond_a m_euclid_nextOfSecond_b m_euclid_q_a m_euclid_q_b m_euclid_quotientA m_euclid_quotientB m_modulus_step m_modulus_width m_modulus_slant m_modulus_square_a m_modulus_square_b m_factors_count m_factors_threes m_factors_unit m_factors_primeA m_factors_primeB m_factors_norms m_factors_euclid_count m_factors_euclid_last_a m_factors_euclid_last_b m_factors_euclid_lastOfFirst_a m_factors_euclid_lastOfFirst_b m_factors_euclid_lastOfSecond_a m_factors_euclid_lastOfSecond_b m_factors_euclid_next_a m_factors_euclid_next_b m_factors_euclid_nextOfFirst_a m_factors_euclid_nextOfFirst_b m_factors_euclid_nextOfSecond_a m_factors_euclid_nextOfSecond_b m_factors_euclid_q_a m_factors_euclid_q_b m_factors_euclid_quotientA m_factors_euclid_quotientB m_factors_left_a m_factors_left_b m_factors_found_a m_factors_found_b m_factors_product_a m_factors_product_b m_primes_count m_primes_primeA m_primes_primeB m_primes_found_a m_primes_found_b m_rings_foundA m_rings_foundB m_rings_all m_rings_mostOfOneRow m_letters_count m_letters_bytes m_one_a m_one_b m_two_a m_two_b m_three_a m_three_b m_four_a m_four_b m_out_a m_out_b m_spare_a m_spare_b m_marks) (wC T h m_drawers_full m_drawers_kept m_drawers_partA m_drawers_partB m_drawers_keptA m_drawers_keptB m_drawers_keptFull m_tape_size m_tape_plain m_tape_omegas m_tape_end m_tape_place m_tape_plainTold m_tape_omegasTold m_tape_bytes m_euclid_count m_euclid_last_a m_euclid_last_b m_euclid_lastOfFirst_a m_euclid_lastOfFirst_b m_euclid_lastOfSecond_a m_euclid_lastOfSecond_b m_euclid_next_a m_euclid_next_b m_euclid_nextOfFirst_a m_euclid_nextOfFirst_b m_euclid_nextOfSecond_a m_euclid_nextOfSecond_b m_euclid_q_a m_euclid_q_b m_euclid_quotientA m_euclid_quotientB m_modulus_step m_modulus_width m_modulus_slant m_modulus_square_a m_modulus_square_b m_factors_count m_factors_threes m_factors_unit m_factors_primeA m_factors_primeB m_factors_norms m_factors_euclid_count m_factors_euclid_last_a m_factors_euclid_last_b m_factors_euclid_lastOfFirst_a m_factors_euclid_lastOfFirst_b m_factors_euclid_lastOfSecond_a m_factors_euclid_lastOfSecond_b m_factors_euclid_next_a m_factors_euclid_next_b m_factors_euclid_nextOfFirst_a m_factors_euclid_nextOfFirst_b m_factors_euclid_nextOfSecond_a m_factors_euclid_nextOfSecond_b m_factors_euclid_q_a m_factors_euclid_q_b m_factors_euclid_quotientA m_factors_euclid_quotientB m_factors_left_a m_factors_left_b m_factors_found_a m_factors_found_b m_factors_product_a m_factors_product_b m_primes_count m_primes_primeA m_primes_primeB m_primes_found_a m_primes_found_b m_rings_foundA m_rings_foundB m_rings_all m_rings_mostOfOneRow m_letters_count m_letters_bytes x.2.1 x.2.2 m_two_a m_two_b m_three_a m_three_b m_four_a m_four_b m_out_a m_out_b m_spare_a m_spare_b m_marks) x.1 := by
  refine kx_ofMI RX10 rfl (plainFor_of_name (x := yX10_length) kpn_X10) rfl ?_
  intro E A H ls _ C X R hl
  have hl : lv_has ls 5 [(0, .ref (h 0)), (1, .int v1)] := hl
  rw [f_X10_length] at hf
  refine x_iload_n 1 C dX10_length_0 hl 1 rfl rfl ?_
  obtain ⟨y1, hy1, hf⟩ := kx_bind hf
  refine x_callSi 4 C dX10_length_1 X hl kl_X10_105 (c_X0_isOne E.2.1 D T  v1  y1 hy1) [] rfl rfl rfl rfl rfl cb_2 rfl (fun H locs X => ?_)
  refine x_if_ne 9 7 C dX10_length_4 rfl rfl hf (fun hf => ?_) (fun hf => ?_)
  · refine x_aload_n 10 C dX10_length_9 hl 0 rfl rfl ?_
    refine x_get 13 C dX10_length_10 X kf_X10_12 0 rfl rfl rfl ?_
    refine x_iload_n 14 C dX10_length_13 hl 1 rfl rfl ?_
    obtain ⟨y14, hy14, hf⟩ := kx_bind hf
    refine x_callVi 17 C dX10_length_14 X hl kl_X10_130 (c_X0_has E.2.1 D T (h 1) (h 2) (h 3) (h 4) (h 5) (h 6) v1 m_drawers_full m_drawers_kept y14 hy14) rfl rfl [] rfl rfl rfl rfl rfl cb_9 rfl (fun H locs X => ?_)
    refine x_if_ne 23 20 C dX10_length_17 rfl rfl hf (fun hf => ?_) (fun hf => ?_)
    · refine x_aload_n 24 C dX10_length_23 hl 0 rfl rfl ?_
      refine x_get 27 C dX10_length_24 X kf_X10_12 0 rfl rfl rfl ?_
      refine x_iload_n 28 C dX10_length_27 hl 1 rfl rfl ?_
      refine x_aload_n 29 C dX10_length_28 hl 0 rfl rfl ?_
      refine x_get 32 C dX10_length_29 X kf_X10_70 0 rfl rfl rfl ?_
      obtain ⟨y32, hy32, hf⟩ := kx_bind hf
      refine x_callVv 35 C dX10_length_32 X hl kl_X10_141 (c_X0_load E.2.1 D T (h 1) (h 2) (h 3) (h 4) (h 5) (h 6) (h 45) v1 m_drawers_full m_drawers_kept m_drawers_partA m_drawers_partB m_one_a m_one_b y32 hy32) rfl rfl [] rfl rfl rfl rfl rfl cb_11 rfl (fun H locs X => ?_)
      refine x_aload_n 36 C dX10_length_35 hl 0 rfl rfl ?_
      refine x_get 39 C dX10_length_36 X kf_X10_70 0 rfl rfl rfl ?_
      obtain ⟨y39, hy39, hf⟩ := kx_bind hf
      refine x_callVl 42 C dX10_length_39 X hl kl_X10_152 (c_X5_norm E.2.1 D T (h 45)  y32.1 y32.2 y39 hy39) rfl rfl [] rfl rfl rfl rfl rfl cb_12 rfl (fun H locs X => ?_)
      refine x_l2f 43 C dX10_length_42 rfl ?_
      refine x_fstore_n 44 C dX10_length_43 [(2, .float (FP.l2f y39)), (0, .ref (h 0)), (1, .int v1)] hl rfl rfl rfl (fun ls hl => ?_)
      refine x_fload_n 45 C dX10_length_44 hl 0 rfl rfl ?_
      refine x_fconst2 46 C dX10_length_45 rfl ?_
      refine x_fdiv 47 C dX10_length_46 hf rfl (fun hf => ?_)
      refine x_fstore_n 48 C dX10_length_47 [(3, .float (FP.fdiv (FP.l2f y39) (0x40000000 : UInt32))), (2, .float (FP.l2f y39)), (0, .ref (h 0)), (1, .int v1)] hl rfl rfl rfl (fun ls hl => ?_)
      refine x_iconst 49 C dX10_length_48 (0 : Int32) kv_iconst_0 rfl ?_
      refine x_istore 51 C dX10_length_49 [(4, .int (0 : Int32)), (3, .float (FP.fdiv (FP.l2f y39) (0x40000000 : UInt32))), (2, .float (FP.l2f y39)), (0, .ref (h 0)), (1, .int v1)] hl rfl rfl rfl (fun ls hl => ?_)
      exact w_X10_length_51 h C N x m_drawers_full m_drawers_kept m_drawers_partA m_drawers_partB m_drawers_keptA m_drawers_keptB m_drawers_keptFull m_tape_size m_tape_plain m_tape_omegas m_tape_end m_tape_place m_tape_plainTold m_tape_omegasTold m_tape_bytes m_euclid_count m_euclid_last_a m_euclid_last_b m_euclid_lastOfFirst_a m_euclid_lastOfFirst_b m_euclid_lastOfSecond_a m_euclid_lastOfSecond_b m_euclid_next_a m_euclid_next_b m_euclid_nextOfFirst_a m_euclid_nextOfFirst_b m_euclid_nextOfSecond_a m_euclid_nextOfSecond_b m_euclid_q_a m_euclid_q_b m_euclid_quotientA m_euclid_quotientB m_modulus_step m_modulus_width m_modulus_slant m_modulus_square_a m_modulus_square_b m_factors_count m_factors_threes m_factors_unit m_factors_primeA m_factors_primeB m_factors_norms m_factors_euclid_count m_factors_euclid_last_a m_factors_euclid_last_b m_factors_euclid_lastOfFirst_a m_factors_euclid_lastOfFirst_b m_factors_euclid_lastOfSecond_a m_factors_euclid_lastOfSecond_b m_factors_euclid_next_a m_factors_euclid_next_b m_factors_euclid_nextOfFirst_a m_factors_euclid_nextOfFirst_b m_factors_euclid_nextOfSecond_a m_factors_euclid_nextOfSecond_b m_factors_euclid_q_a m_factors_euclid_q_b m_factors_euclid_quotientA m_factors_euclid_quotientB m_factors_left_a m_factors_left_b m_factors_found_a m_factors_found_b m_factors_product_a m_factors_product_b m_primes_count m_primes_primeA m_primes_primeB m_primes_found_a m_primes_found_b m_rings_foundA m_rings_foundB m_rings_all m_rings_mostOfOneRow m_letters_count m_letters_bytes m_two_a m_two_b m_three_a m_three_b m_four_a m_four_b m_out_a m_out_b m_spare_a m_spare_b m_marks R  N y32.1 y32.2 (FP.l2f y39) (FP.fdiv (FP.l2f y39) (0x40000000 : UInt32)) (0 : Int32) _ _ _ X (lv_sub hl [2, 1, 0] rfl) hf
    refine x_bipush 22 C dX10_length_20 (-2 : Int32) kv_bipush_m2 rfl ?_
    obtain rfl := Option.some.inj hf
    exact R _ _ _ _ X dX10_length_22
  refine x_iconst 8 C dX10_length_7 (-1 : Int32) kv_iconst_m1 rfl ?_
  obtain rfl := Option.some.inj hf
  exact R _ _ _ _ X dX10_length_8
set_option maxHeartbeats 4000000 in
set_option maxRecDepth 100000 in
theorem w_X11_fits_38 {E : KE} {A : Nat → Prop} {D : va_G} {T : KT} (h : Nat → Nat) (C : kx_C E cX11_fits 11 none RX11 0 0 D T) (N : Nat) (x : Int64 × Int32) (m_taped m_states : Int32) (m_ra m_rb : Int64) (m_threes m_primes m_ones m_unit : Int32) (m_allParts m_allNorms m_allClasses : Int64) (m_odd : Int32) (m_boxWide m_boxHigh m_boxStep : Int64) (m_partingMany : Int32) (m_qa m_qb m_la m_lb m_sa m_sb m_ta m_tb : Int64) (m_listed m_tells m_wanted m_found m_rings m_ringA m_ringB m_seedNow : Int32) (m_tape m_has m_keptHas m_first m_second m_keptFirst m_keptSecond m_pa m_pb m_pNorm m_cubed m_isOpen m_signs m_often m_la0 m_lb0 : Nat → Int32) (R : kx_RV E cX11_fits D A (wM T h m_taped m_states m_ra m_rb m_threes m_primes m_ones m_unit m_allParts m_allNorms m_allClasses m_odd m_boxWide m_boxHigh m_boxStep m_partingMany m_qa m_qb m_la m_lb m_sa m_sb m_ta m_tb m_listed m_tells m_wanted m_found x.1 x.2 m_rings m_ringA m_ringB m_seedNow m_tape m_has m_keptHas m_first m_second m_keptFirst m_keptSecond m_pa m_pb m_pNorm m_cubed m_isOpen m_signs m_often m_la0 m_lb0)) : ∀ (k : Nat), ∀ (m_bits : Int64) (m_power2 : Int32)  (H : Heap) (locs : List Loc) (ls : Array Slot), kx_H E D A H locs (wM T h m_taped m_states m_ra m_rb m_threes m_primes m_ones m_unit m_allParts m_allNorms m_allClasses m_odd m_boxWide m_boxHigh m_boxStep m_partingMany m_qa m_qb m_la m_lb m_sa m_sb m_ta m_tb m_listed m_tells m_wanted m_found m_bits m_power2 m_rings m_ringA m_ringB m_seedNow m_tape m_has m_keptHas m_first m_second m_keptFirst m_keptSecond m_pa m_pb m_pNorm m_cubed m_isOpen m_signs m_often m_la0 m_lb0) → lv_has ls 11 [(0, .ref (h 0))] → f_X11_fits_38 N k m_bits m_power2 = some x → kx_W E H locs 38 ls [] := by
  intro k
  induction k with
  | zero =>
    intro m_bits m_power2 H locs ls X hl hf
    cases (show (none : Option (Int64 × Int32)) = some x from hf)
  | succ k ih =>
    intro m_bits m_power2 H locs ls X hl hf
    rw [f_X11_fits_38] at hf
    refine x_ldc2_w 41 C dX11_fits_38 (2 : Int64) kc_X11_119 rfl ?_
    refine x_aload_n 42 C dX11_fits_41 hl 0 rfl rfl ?_
    refine x_get 45 C dX11_fits_42 X kf_X11_416 0 rfl rfl rfl ?_
    refine x_lmul 46 C dX11_fits_45 rfl ?_
    refine x_ldc2_w 49 C dX11_fits_46 (16777216 : Int64) kc_X11_414 rfl ?_
    refine x_lcmp_ge 78 50 53 C dX11_fits_49 dX11_fits_50 rfl rfl rfl hf (fun hf => ?_) (fun hf => ?_)
    · obtain rfl := Option.some.inj hf
      exact R _ _ _ _ X dX11_fits_78
    refine x_aload_n 54 C dX11_fits_53 hl 0 rfl rfl ?_
    refine x_ldc2_w 57 C dX11_fits_54 (2 : Int64) kc_X11_119 rfl ?_
    refine x_aload_n 58 C dX11_fits_57 hl 0 rfl rfl ?_
    refine x_get 61 C dX11_fits_58 X kf_X11_416 0 rfl rfl rfl ?_
    refine x_lmul 62 C dX11_fits_61 rfl ?_
    refine x_put 65 C dX11_fits_62 X kp_X11_416 0 rfl rfl rfl rfl (wM T h m_taped m_states m_ra m_rb m_threes m_primes m_ones m_unit m_allParts m_allNorms m_allClasses m_odd m_boxWide m_boxHigh m_boxStep m_partingMany m_qa m_qb m_la m_lb m_sa m_sb m_ta m_tb m_listed m_tells m_wanted m_found ((2 : Int64) * m_bits) m_power2 m_rings m_ringA m_ringB m_seedNow m_tape m_has m_keptHas m_first m_second m_keptFirst m_keptSecond m_pa m_pb m_pNorm m_cubed m_isOpen m_signs m_often m_la0 m_lb0) rfl rfl (fun H locs X => ?_)
    refine x_aload_n 66 C dX11_fits_65 hl 0 rfl rfl ?_
    refine x_aload_n 67 C dX11_fits_66 hl 0 rfl rfl ?_
    refine x_get 70 C dX11_fits_67 X kf_X11_419 0 rfl rfl rfl ?_
    refine x_iconst 71 C dX11_fits_70 (1 : Int32) kv_iconst_1 rfl ?_
    refine x_isub 72 C dX11_fits_71 rfl ?_
    refine x_put 75 C dX11_fits_72 X kp_X11_419 0 rfl rfl rfl rfl (wM T h m_taped m_states m_ra m_rb m_threes m_primes m_ones m_unit m_allParts m_allNorms m_allClasses m_odd m_boxWide m_boxHigh m_boxStep m_partingMany m_qa m_qb m_la m_lb m_sa m_sb m_ta m_tb m_listed m_tells m_wanted m_found ((2 : Int64) * m_bits) (m_power2 - (1 : Int32)) m_rings m_ringA m_ringB m_seedNow m_tape m_has m_keptHas m_first m_second m_keptFirst m_keptSecond m_pa m_pb m_pNorm m_cubed m_isOpen m_signs m_often m_la0 m_lb0) rfl rfl (fun H locs X => ?_)
    refine x_goto 38 C dX11_fits_75 rfl ?_
    exact ih ((2 : Int64) * m_bits) (m_power2 - (1 : Int32)) _ _ _ X (lv_sub hl [0] rfl) hf
set_option maxHeartbeats 4000000 in
set_option maxRecDepth 100000 in
theorem w_X11_fits_175 {E : KE} {A : Nat → Prop} {D : va_G} {T : KT} (h : Nat → Nat) (C : kx_C E cX11_fits 11 none RX11 0 0 D T) (N : Nat) (x : Int64 × Int32) (m_taped m_states : Int32) (m_ra m_rb : Int64) (m_threes m_primes m_ones m_unit : Int32) (m_allParts m_allNorms m_allClasses : Int64) (m_odd : Int32) (m_boxWide m_boxHigh m_boxStep : Int64) (m_partingMany : Int32) (m_qa m_qb m_la m_lb m_sa m_sb m_ta m_tb : Int64) (m_listed m_tells m_wanted m_found m_rings m_ringA m_ringB m_seedNow : Int32) (m_tape m_has m_keptHas m_first m_second m_keptFirst m_keptSecond m_pa m_pb m_pNorm m_cubed m_isOpen m_signs m_often m_la0 m_lb0 : Nat → Int32) (R : kx_RV E cX11_fits D A (wM T h m_taped m_states m_ra m_rb m_threes m_primes m_ones m_unit m_allParts m_allNorms m_allClasses m_odd m_boxWide m_boxHigh m_boxStep m_partingMany m_qa m_qb m_la m_lb m_sa m_sb m_ta m_tb m_listed m_tells m_wanted m_found x.1 x.2 m_rings m_ringA m_ringB m_seedNow m_tape m_has m_keptHas m_first m_second m_keptFirst m_keptSecond m_pa m_pb m_pNorm m_cubed m_isOpen m_signs m_often m_la0 m_lb0)) : ∀ (m_bits : Int64) (m_power2 : Int32) (s1 : Int64) (H : Heap) (locs : List Loc) (ls : Array Slot), kx_H E D A H locs (wM T h m_taped m_states m_ra m_rb m_threes m_primes m_ones m_unit m_allParts m_allNorms m_allClasses m_odd m_boxWide m_boxHigh m_boxStep m_partingMany m_qa m_qb m_la m_lb m_sa m_sb m_ta m_tb m_listed m_tells m_wanted m_found m_bits m_power2 m_rings m_ringA m_ringB m_seedNow m_tape m_has m_keptHas m_first m_second m_keptFirst m_keptSecond m_pa m_pb m_pNorm m_cubed m_isOpen m_signs m_often m_la0 m_lb0) → lv_has ls 11 [(0, .ref (h 0))] → f_X11_fits_175 N s1 m_power2 = some x → kx_W E H locs 175 ls [.long s1, .ref (h 0)] := by
  intro m_bits m_power2 s1 H locs ls X hl hf
  rw [f_X11_fits_175] at hf
  refine x_put 178 C dX11_fits_175 X kp_X11_416 0 rfl rfl rfl rfl (wM T h m_taped m_states m_ra m_rb m_threes m_primes m_ones m_unit m_allParts m_allNorms m_allClasses m_odd m_boxWide m_boxHigh m_boxStep m_partingMany m_qa m_qb m_la m_lb m_sa m_sb m_ta m_tb m_listed m_tells m_wanted m_found s1 m_power2 m_rings m_ringA m_ringB m_seedNow m_tape m_has m_keptHas m_first m_second m_keptFirst m_keptSecond m_pa m_pb m_pNorm m_cubed m_isOpen m_signs m_often m_la0 m_lb0) rfl rfl (fun H locs X => ?_)
  refine x_aload_n 179 C dX11_fits_178 hl 0 rfl rfl ?_
  refine x_get 182 C dX11_fits_179 X kf_X11_416 0 rfl rfl rfl ?_
  refine x_ldc2_w 185 C dX11_fits_182 (16777216 : Int64) kc_X11_414 rfl ?_
  refine x_lcmp_ne 211 186 189 C dX11_fits_185 dX11_fits_186 rfl rfl rfl hf (fun hf => ?_) (fun hf => ?_)
  · obtain rfl := Option.some.inj hf
    exact R _ _ _ _ X dX11_fits_211
  refine x_aload_n 190 C dX11_fits_189 hl 0 rfl rfl ?_
  refine x_aload_n 191 C dX11_fits_190 hl 0 rfl rfl ?_
  refine x_get 194 C dX11_fits_191 X kf_X11_416 0 rfl rfl rfl ?_
  refine x_ldc2_w 197 C dX11_fits_194 (2 : Int64) kc_X11_119 rfl ?_
  refine x_ldiv0 198 C dX11_fits_197 kz_l_2 rfl ?_
  refine x_put 201 C dX11_fits_198 X kp_X11_416 0 rfl rfl rfl rfl (wM T h m_taped m_states m_ra m_rb m_threes m_primes m_ones m_unit m_allParts m_allNorms m_allClasses m_odd m_boxWide m_boxHigh m_boxStep m_partingMany m_qa m_qb m_la m_lb m_sa m_sb m_ta m_tb m_listed m_tells m_wanted m_found (s1 / (2 : Int64)) m_power2 m_rings m_ringA m_ringB m_seedNow m_tape m_has m_keptHas m_first m_second m_keptFirst m_keptSecond m_pa m_pb m_pNorm m_cubed m_isOpen m_signs m_often m_la0 m_lb0) rfl rfl (fun H locs X => ?_)
  refine x_aload_n 202 C dX11_fits_201 hl 0 rfl rfl ?_
  refine x_aload_n 203 C dX11_fits_202 hl 0 rfl rfl ?_
  refine x_get 206 C dX11_fits_203 X kf_X11_419 0 rfl rfl rfl ?_
  refine x_iconst 207 C dX11_fits_206 (1 : Int32) kv_iconst_1 rfl ?_
  refine x_iadd 208 C dX11_fits_207 rfl ?_
  refine x_put 211 C dX11_fits_208 X kp_X11_419 0 rfl rfl rfl rfl (wM T h m_taped m_states m_ra m_rb m_threes m_primes m_ones m_unit m_allParts m_allNorms m_allClasses m_odd m_boxWide m_boxHigh m_boxStep m_partingMany m_qa m_qb m_la m_lb m_sa m_sb m_ta m_tb m_listed m_tells m_wanted m_found (s1 / (2 : Int64)) (m_power2 + (1 : Int32)) m_rings m_ringA m_ringB m_seedNow m_tape m_has m_keptHas m_first m_second m_keptFirst m_keptSecond m_pa m_pb m_pNorm m_cubed m_isOpen m_signs m_often m_la0 m_lb0) rfl rfl (fun H locs X => ?_)
  obtain rfl := Option.some.inj hf
  exact R _ _ _ _ X dX11_fits_211
set_option maxHeartbeats 4000000 in
set_option maxRecDepth 100000 in
theorem w_X11_fits_154 {E : KE} {A : Nat → Prop} {D : va_G} {T : KT} (h : Nat → Nat) (C : kx_C E cX11_fits 11 none RX11 0 0 D T) (N : Nat) (x : Int64 × Int32) (m_taped m_states : Int32) (m_ra m_rb : Int64) (m_threes m_primes m_ones m_unit : Int32) (m_allParts m_allNorms m_allClasses : Int64) (m_odd : Int32) (m_boxWide m_boxHigh m_boxStep : Int64) (m_partingMany : Int32) (m_qa m_qb m_la m_lb m_sa m_sb m_ta m_tb : Int64) (m_listed m_tells m_wanted m_found m_rings m_ringA m_ringB m_seedNow : Int32) (m_tape m_has m_keptHas m_first m_second m_keptFirst m_keptSecond m_pa m_pb m_pNorm m_cubed m_isOpen m_signs m_often m_la0 m_lb0 : Nat → Int32) (R : kx_RV E cX11_fits D A (wM T h m_taped m_states m_ra m_rb m_threes m_primes m_ones m_unit m_allParts m_allNorms m_allClasses m_odd m_boxWide m_boxHigh m_boxStep m_partingMany m_qa m_qb m_la m_lb m_sa m_sb m_ta m_tb m_listed m_tells m_wanted m_found x.1 x.2 m_rings m_ringA m_ringB m_seedNow m_tape m_has m_keptHas m_first m_second m_keptFirst m_keptSecond m_pa m_pb m_pNorm m_cubed m_isOpen m_signs m_often m_la0 m_lb0)) : ∀ (m_bits : Int64) (m_power2 : Int32) (s0 : Int32) (H : Heap) (locs : List Loc) (ls : Array Slot), kx_H E D A H locs (wM T h m_taped m_states m_ra m_rb m_threes m_primes m_ones m_unit m_allParts m_allNorms m_allClasses m_odd m_boxWide m_boxHigh m_boxStep m_partingMany m_qa m_qb m_la m_lb m_sa m_sb m_ta m_tb m_listed m_tells m_wanted m_found m_bits m_power2 m_rings m_ringA m_ringB m_seedNow m_tape m_has m_keptHas m_first m_second m_keptFirst m_keptSecond m_pa m_pb m_pNorm m_cubed m_isOpen m_signs m_often m_la0 m_lb0) → lv_has ls 11 [(0, .ref (h 0))] → f_X11_fits_154 N s0 m_bits m_power2 = some x → kx_W E H locs 154 ls [.int s0] := by
  intro m_bits m_power2 s0 H locs ls X hl hf
  rw [f_X11_fits_154] at hf
  refine x_istore 156 C dX11_fits_154 [(10, .int s0), (0, .ref (h 0))] hl rfl rfl rfl (fun ls hl => ?_)
  refine x_aload_n 157 C dX11_fits_156 hl 1 rfl rfl ?_
  refine x_iload 159 C dX11_fits_157 hl 0 rfl rfl ?_
  refine x_if_eq 171 162 C dX11_fits_159 rfl rfl hf (fun hf => ?_) (fun hf => ?_)
  · refine x_aload_n 172 C dX11_fits_171 hl 1 rfl rfl ?_
    refine x_get 175 C dX11_fits_172 X kf_X11_416 0 rfl rfl rfl ?_
    exact w_X11_fits_175 h C N x m_taped m_states m_ra m_rb m_threes m_primes m_ones m_unit m_allParts m_allNorms m_allClasses m_odd m_boxWide m_boxHigh m_boxStep m_partingMany m_qa m_qb m_la m_lb m_sa m_sb m_ta m_tb m_listed m_tells m_wanted m_found m_rings m_ringA m_ringB m_seedNow m_tape m_has m_keptHas m_first m_second m_keptFirst m_keptSecond m_pa m_pb m_pNorm m_cubed m_isOpen m_signs m_often m_la0 m_lb0 R  m_bits m_power2 m_bits _ _ _ X (lv_sub hl [1] rfl) hf
  refine x_aload_n 163 C dX11_fits_162 hl 1 rfl rfl ?_
  refine x_get 166 C dX11_fits_163 X kf_X11_416 0 rfl rfl rfl ?_
  refine x_lconst 167 C dX11_fits_166 (1 : Int64) kv_lconst_1 rfl ?_
  refine x_ladd 168 C dX11_fits_167 rfl ?_
  refine x_goto 175 C dX11_fits_168 rfl ?_
  exact w_X11_fits_175 h C N x m_taped m_states m_ra m_rb m_threes m_primes m_ones m_unit m_allParts m_allNorms m_allClasses m_odd m_boxWide m_boxHigh m_boxStep m_partingMany m_qa m_qb m_la m_lb m_sa m_sb m_ta m_tb m_listed m_tells m_wanted m_found m_rings m_ringA m_ringB m_seedNow m_tape m_has m_keptHas m_first m_second m_keptFirst m_keptSecond m_pa m_pb m_pNorm m_cubed m_isOpen m_signs m_often m_la0 m_lb0 R  m_bits m_power2 (m_bits + (1 : Int64)) _ _ _ X (lv_sub hl [1] rfl) hf
set_option maxHeartbeats 4000000 in
set_option maxRecDepth 100000 in
theorem w_X11_fits_3 {E : KE} {A : Nat → Prop} {D : va_G} {T : KT} (h : Nat → Nat) (C : kx_C E cX11_fits 11 none RX11 0 0 D T) (N : Nat) (x : Int64 × Int32) (m_taped m_states : Int32) (m_ra m_rb : Int64) (m_threes m_primes m_ones m_unit : Int32) (m_allParts m_allNorms m_allClasses : Int64) (m_odd : Int32) (m_boxWide m_boxHigh m_boxStep : Int64) (m_partingMany : Int32) (m_qa m_qb m_la m_lb m_sa m_sb m_ta m_tb : Int64) (m_listed m_tells m_wanted m_found m_rings m_ringA m_ringB m_seedNow : Int32) (m_tape m_has m_keptHas m_first m_second m_keptFirst m_keptSecond m_pa m_pb m_pNorm m_cubed m_isOpen m_signs m_often m_la0 m_lb0 : Nat → Int32) (R : kx_RV E cX11_fits D A (wM T h m_taped m_states m_ra m_rb m_threes m_primes m_ones m_unit m_allParts m_allNorms m_allClasses m_odd m_boxWide m_boxHigh m_boxStep m_partingMany m_qa m_qb m_la m_lb m_sa m_sb m_ta m_tb m_listed m_tells m_wanted m_found x.1 x.2 m_rings m_ringA m_ringB m_seedNow m_tape m_has m_keptHas m_first m_second m_keptFirst m_keptSecond m_pa m_pb m_pNorm m_cubed m_isOpen m_signs m_often m_la0 m_lb0)) : ∀ (k : Nat), ∀ (m_bits : Int64) (m_power2 : Int32) (v1 : Int64) (v3 v4 v5 : Int32) (H : Heap) (locs : List Loc) (ls : Array Slot), kx_H E D A H locs (wM T h m_taped m_states m_ra m_rb m_threes m_primes m_ones m_unit m_allParts m_allNorms m_allClasses m_odd m_boxWide m_boxHigh m_boxStep m_partingMany m_qa m_qb m_la m_lb m_sa m_sb m_ta m_tb m_listed m_tells m_wanted m_found m_bits m_power2 m_rings m_ringA m_ringB m_seedNow m_tape m_has m_keptHas m_first m_second m_keptFirst m_keptSecond m_pa m_pb m_pNorm m_cubed m_isOpen m_signs m_often m_la0 m_lb0) → lv_has ls 11 [(0, .ref (h 0)), (1, .long v1), (3, .int v3), (4, .int v4), (5, .int v5)] → f_X11_fits_3 N k v1 v3 v4 v5 = some x → kx_W E H locs 3 ls [] := by
  intro k
  induction k with
  | zero =>
    intro m_bits m_power2 v1 v3 v4 v5 H locs ls X hl hf
    cases (show (none : Option (Int64 × Int32)) = some x from hf)
  | succ k ih =>
    intro m_bits m_power2 v1 v3 v4 v5 H locs ls X hl hf
    rw [f_X11_fits_3] at hf
    refine x_lload_n 4 C dX11_fits_3 hl 1 rfl rfl ?_
    refine x_iload 6 C dX11_fits_4 hl 4 rfl rfl ?_
    refine x_lshr 7 C dX11_fits_6 rfl ?_
    refine x_ldc2_w 10 C dX11_fits_7 (16777216 : Int64) kc_X11_414 rfl ?_
    refine x_lcmp_lt 23 11 14 C dX11_fits_10 dX11_fits_11 rfl rfl rfl hf (fun hf => ?_) (fun hf => ?_)
    · refine x_iload 25 C dX11_fits_23 hl 4 rfl rfl ?_
      refine x_if_ne 79 28 C dX11_fits_25 rfl rfl hf (fun hf => ?_) (fun hf => ?_)
      · refine x_lconst 80 C dX11_fits_79 (1 : Int64) kv_lconst_1 rfl ?_
        refine x_iload 82 C dX11_fits_80 hl 4 rfl rfl ?_
        refine x_iconst 83 C dX11_fits_82 (1 : Int32) kv_iconst_1 rfl ?_
        refine x_isub 84 C dX11_fits_83 rfl ?_
        refine x_lshl 85 C dX11_fits_84 rfl ?_
        refine x_lstore 87 C dX11_fits_85 [(6, .long ((1 : Int64) <<< (((v5 - (1 : Int32))).toInt64 &&& 63))), (0, .ref (h 0)), (1, .long v1), (3, .int v3), (4, .int v4), (5, .int v5)] hl rfl rfl rfl (fun ls hl => ?_)
        refine x_lload_n 88 C dX11_fits_87 hl 2 rfl rfl ?_
        refine x_ldc2_w 91 C dX11_fits_88 (2 : Int64) kc_X11_119 rfl ?_
        refine x_lload 93 C dX11_fits_91 hl 0 rfl rfl ?_
        refine x_lmul 94 C dX11_fits_93 rfl ?_
        refine x_lconst 95 C dX11_fits_94 (1 : Int64) kv_lconst_1 rfl ?_
        refine x_lsub 96 C dX11_fits_95 rfl ?_
        refine x_land 97 C dX11_fits_96 rfl ?_
        refine x_lstore 99 C dX11_fits_97 [(8, .long (v1 &&& (((2 : Int64) * ((1 : Int64) <<< (((v5 - (1 : Int32))).toInt64 &&& 63))) - (1 : Int64)))), (6, .long ((1 : Int64) <<< (((v5 - (1 : Int32))).toInt64 &&& 63))), (0, .ref (h 0)), (1, .long v1), (3, .int v3), (4, .int v4), (5, .int v5)] hl rfl rfl rfl (fun ls hl => ?_)
        refine x_aload_n 100 C dX11_fits_99 hl 2 rfl rfl ?_
        refine x_lload_n 101 C dX11_fits_100 hl 3 rfl rfl ?_
        refine x_iload 103 C dX11_fits_101 hl 6 rfl rfl ?_
        refine x_lshr 104 C dX11_fits_103 rfl ?_
        refine x_put 107 C dX11_fits_104 X kp_X11_416 0 rfl rfl rfl rfl (wM T h m_taped m_states m_ra m_rb m_threes m_primes m_ones m_unit m_allParts m_allNorms m_allClasses m_odd m_boxWide m_boxHigh m_boxStep m_partingMany m_qa m_qb m_la m_lb m_sa m_sb m_ta m_tb m_listed m_tells m_wanted m_found (v1 >>> ((v5).toInt64 &&& 63)) m_power2 m_rings m_ringA m_ringB m_seedNow m_tape m_has m_keptHas m_first m_second m_keptFirst m_keptSecond m_pa m_pb m_pNorm m_cubed m_isOpen m_signs m_often m_la0 m_lb0) rfl rfl (fun H locs X => ?_)
        refine x_aload_n 108 C dX11_fits_107 hl 2 rfl rfl ?_
        refine x_iload_n 109 C dX11_fits_108 hl 4 rfl rfl ?_
        refine x_iload 111 C dX11_fits_109 hl 6 rfl rfl ?_
        refine x_iadd 112 C dX11_fits_111 rfl ?_
        refine x_put 115 C dX11_fits_112 X kp_X11_419 0 rfl rfl rfl rfl (wM T h m_taped m_states m_ra m_rb m_threes m_primes m_ones m_unit m_allParts m_allNorms m_allClasses m_odd m_boxWide m_boxHigh m_boxStep m_partingMany m_qa m_qb m_la m_lb m_sa m_sb m_ta m_tb m_listed m_tells m_wanted m_found (v1 >>> ((v5).toInt64 &&& 63)) (v3 + v5) m_rings m_ringA m_ringB m_seedNow m_tape m_has m_keptHas m_first m_second m_keptFirst m_keptSecond m_pa m_pb m_pNorm m_cubed m_isOpen m_signs m_often m_la0 m_lb0) rfl rfl (fun H locs X => ?_)
        refine x_lload 117 C dX11_fits_115 hl 0 rfl rfl ?_
        refine x_lload 119 C dX11_fits_117 hl 1 rfl rfl ?_
        refine x_lcmp_gt 149 120 123 C dX11_fits_119 dX11_fits_120 rfl rfl rfl hf (fun hf => ?_) (fun hf => ?_)
        · refine x_iconst 150 C dX11_fits_149 (1 : Int32) kv_iconst_1 rfl ?_
          refine x_goto 154 C dX11_fits_150 rfl ?_
          exact w_X11_fits_154 h C N x m_taped m_states m_ra m_rb m_threes m_primes m_ones m_unit m_allParts m_allNorms m_allClasses m_odd m_boxWide m_boxHigh m_boxStep m_partingMany m_qa m_qb m_la m_lb m_sa m_sb m_ta m_tb m_listed m_tells m_wanted m_found m_rings m_ringA m_ringB m_seedNow m_tape m_has m_keptHas m_first m_second m_keptFirst m_keptSecond m_pa m_pb m_pNorm m_cubed m_isOpen m_signs m_often m_la0 m_lb0 R  (v1 >>> ((v5).toInt64 &&& 63)) (v3 + v5) (1 : Int32) _ _ _ X (lv_sub hl [2] rfl) hf
        refine x_lload 125 C dX11_fits_123 hl 0 rfl rfl ?_
        refine x_lload 127 C dX11_fits_125 hl 1 rfl rfl ?_
        refine x_lcmp_ne 153 128 131 C dX11_fits_127 dX11_fits_128 rfl rfl rfl hf (fun hf => ?_) (fun hf => ?_)
        · refine x_iconst 154 C dX11_fits_153 (0 : Int32) kv_iconst_0 rfl ?_
          exact w_X11_fits_154 h C N x m_taped m_states m_ra m_rb m_threes m_primes m_ones m_unit m_allParts m_allNorms m_allClasses m_odd m_boxWide m_boxHigh m_boxStep m_partingMany m_qa m_qb m_la m_lb m_sa m_sb m_ta m_tb m_listed m_tells m_wanted m_found m_rings m_ringA m_ringB m_seedNow m_tape m_has m_keptHas m_first m_second m_keptFirst m_keptSecond m_pa m_pb m_pNorm m_cubed m_isOpen m_signs m_often m_la0 m_lb0 R  (v1 >>> ((v5).toInt64 &&& 63)) (v3 + v5) (0 : Int32) _ _ _ X (lv_sub hl [2] rfl) hf
        refine x_iload 133 C dX11_fits_131 hl 5 rfl rfl ?_
        refine x_if_ne 149 136 C dX11_fits_133 rfl rfl hf (fun hf => ?_) (fun hf => ?_)
        · refine x_iconst 150 C dX11_fits_149 (1 : Int32) kv_iconst_1 rfl ?_
          refine x_goto 154 C dX11_fits_150 rfl ?_
          exact w_X11_fits_154 h C N x m_taped m_states m_ra m_rb m_threes m_primes m_ones m_unit m_allParts m_allNorms m_allClasses m_odd m_boxWide m_boxHigh m_boxStep m_partingMany m_qa m_qb m_la m_lb m_sa m_sb m_ta m_tb m_listed m_tells m_wanted m_found m_rings m_ringA m_ringB m_seedNow m_tape m_has m_keptHas m_first m_second m_keptFirst m_keptSecond m_pa m_pb m_pNorm m_cubed m_isOpen m_signs m_often m_la0 m_lb0 R  (v1 >>> ((v5).toInt64 &&& 63)) (v3 + v5) (1 : Int32) _ _ _ X (lv_sub hl [2] rfl) hf
        refine x_aload_n 137 C dX11_fits_136 hl 2 rfl rfl ?_
        refine x_get 140 C dX11_fits_137 X kf_X11_416 0 rfl rfl rfl ?_
        refine x_ldc2_w 143 C dX11_fits_140 (2 : Int64) kc_X11_119 rfl ?_
        refine x_lrem0 144 C dX11_fits_143 kz_l_2 rfl ?_
        refine x_lconst 145 C dX11_fits_144 (1 : Int64) kv_lconst_1 rfl ?_
        refine x_lcmp_ne 153 146 149 C dX11_fits_145 dX11_fits_146 rfl rfl rfl hf (fun hf => ?_) (fun hf => ?_)
        · refine x_iconst 154 C dX11_fits_153 (0 : Int32) kv_iconst_0 rfl ?_
          exact w_X11_fits_154 h C N x m_taped m_states m_ra m_rb m_threes m_primes m_ones m_unit m_allParts m_allNorms m_allClasses m_odd m_boxWide m_boxHigh m_boxStep m_partingMany m_qa m_qb m_la m_lb m_sa m_sb m_ta m_tb m_listed m_tells m_wanted m_found m_rings m_ringA m_ringB m_seedNow m_tape m_has m_keptHas m_first m_second m_keptFirst m_keptSecond m_pa m_pb m_pNorm m_cubed m_isOpen m_signs m_often m_la0 m_lb0 R  (v1 >>> ((v5).toInt64 &&& 63)) (v3 + v5) (0 : Int32) _ _ _ X (lv_sub hl [2] rfl) hf
        refine x_iconst 150 C dX11_fits_149 (1 : Int32) kv_iconst_1 rfl ?_
        refine x_goto 154 C dX11_fits_150 rfl ?_
        exact w_X11_fits_154 h C N x m_taped m_states m_ra m_rb m_threes m_primes m_ones m_unit m_allParts m_allNorms m_allClasses m_odd m_boxWide m_boxHigh m_boxStep m_partingMany m_qa m_qb m_la m_lb m_sa m_sb m_ta m_tb m_listed m_tells m_wanted m_found m_rings m_ringA m_ringB m_seedNow m_tape m_has m_keptHas m_first m_second m_keptFirst m_keptSecond m_pa m_pb m_pNorm m_cubed m_isOpen m_signs m_often m_la0 m_lb0 R  (v1 >>> ((v5).toInt64 &&& 63)) (v3 + v5) (1 : Int32) _ _ _ X (lv_sub hl [2] rfl) hf
      refine x_aload_n 29 C dX11_fits_28 hl 0 rfl rfl ?_
      refine x_lload_n 30 C dX11_fits_29 hl 1 rfl rfl ?_
      refine x_put 33 C dX11_fits_30 X kp_X11_416 0 rfl rfl rfl rfl (wM T h m_taped m_states m_ra m_rb m_threes m_primes m_ones m_unit m_allParts m_allNorms m_allClasses m_odd m_boxWide m_boxHigh m_boxStep m_partingMany m_qa m_qb m_la m_lb m_sa m_sb m_ta m_tb m_listed m_tells m_wanted m_found v1 m_power2 m_rings m_ringA m_ringB m_seedNow m_tape m_has m_keptHas m_first m_second m_keptFirst m_keptSecond m_pa m_pb m_pNorm m_cubed m_isOpen m_signs m_often m_la0 m_lb0) rfl rfl (fun H locs X => ?_)
      refine x_aload_n 34 C dX11_fits_33 hl 0 rfl rfl ?_
      refine x_iload_n 35 C dX11_fits_34 hl 2 rfl rfl ?_
      refine x_put 38 C dX11_fits_35 X kp_X11_419 0 rfl rfl rfl rfl (wM T h m_taped m_states m_ra m_rb m_threes m_primes m_ones m_unit m_allParts m_allNorms m_allClasses m_odd m_boxWide m_boxHigh m_boxStep m_partingMany m_qa m_qb m_la m_lb m_sa m_sb m_ta m_tb m_listed m_tells m_wanted m_found v1 v3 m_rings m_ringA m_ringB m_seedNow m_tape m_has m_keptHas m_first m_second m_keptFirst m_keptSecond m_pa m_pb m_pNorm m_cubed m_isOpen m_signs m_often m_la0 m_lb0) rfl rfl (fun H locs X => ?_)
      exact w_X11_fits_38 h C N x m_taped m_states m_ra m_rb m_threes m_primes m_ones m_unit m_allParts m_allNorms m_allClasses m_odd m_boxWide m_boxHigh m_boxStep m_partingMany m_qa m_qb m_la m_lb m_sa m_sb m_ta m_tb m_listed m_tells m_wanted m_found m_rings m_ringA m_ringB m_seedNow m_tape m_has m_keptHas m_first m_second m_keptFirst m_keptSecond m_pa m_pb m_pNorm m_cubed m_isOpen m_signs m_often m_la0 m_lb0 R  N v1 v3 _ _ _ X (lv_sub hl [0] rfl) hf
    refine x_iload 16 C dX11_fits_14 hl 4 rfl rfl ?_
    refine x_iconst 17 C dX11_fits_16 (1 : Int32) kv_iconst_1 rfl ?_
    refine x_iadd 18 C dX11_fits_17 rfl ?_
    refine x_istore 20 C dX11_fits_18 [(5, .int (v5 + (1 : Int32))), (0, .ref (h 0)), (1, .long v1), (3, .int v3), (4, .int v4)] hl rfl rfl rfl (fun ls hl => ?_)
    refine x_goto 3 C dX11_fits_20 rfl ?_
    exact ih m_bits m_power2 v1 v3 v4 (v5 + (1 : Int32)) _ _ _ X (lv_sub hl [1, 2, 3, 4, 0] rfl) hf
set_option maxHeartbeats 4000000 in
set_option maxRecDepth 100000 in
theorem c_X11_fits (l : Launch) (D : va_G) (T : KT) (h : Nat → Nat) (N : Nat) (v1 : Int64) (v3 v4 : Int32) (m_taped m_states : Int32) (m_ra m_rb : Int64) (m_threes m_primes m_ones m_unit : Int32) (m_allParts m_allNorms m_allClasses : Int64) (m_odd : Int32) (m_boxWide m_boxHigh m_boxStep : Int64) (m_partingMany : Int32) (m_qa m_qb m_la m_lb m_sa m_sb m_ta m_tb : Int64) (m_listed m_tells m_wanted m_found : Int32) (m_bits : Int64) (m_power2 m_rings m_ringA m_ringB m_seedNow : Int32) (m_tape m_has m_keptHas m_first m_second m_keptFirst m_keptSecond m_pa m_pb m_pNorm m_cubed m_isOpen m_signs m_often m_la0 m_lb0 : Nat → Int32) (x : Int64 × Int32) (hf : f_X11_fits N v1 v3 v4 = some x) : kx_MV l yX11_fits cX11_fits 11 none 0 0 D T [.ref (h 0), .long v1, .int v3, .int v4] (wM T h m_taped m_states m_ra m_rb m_threes m_primes m_ones m_unit m_allParts m_allNorms m_allClasses m_odd m_boxWide m_boxHigh m_boxStep m_partingMany m_qa m_qb m_la m_lb m_sa m_sb m_ta m_tb m_listed m_tells m_wanted m_found m_bits m_power2 m_rings m_ringA m_ringB m_seedNow m_tape m_has m_keptHas m_first m_second m_keptFirst m_keptSecond m_pa m_pb m_pNorm m_cubed m_isOpen m_signs m_often m_la0 m_lb0) (wM T h m_taped m_states m_ra m_rb m_threes m_primes m_ones m_unit m_allParts m_allNorms m_allClasses m_odd m_boxWide m_boxHigh m_boxStep m_partingMany m_qa m_qb m_la m_lb m_sa m_sb m_ta m_tb m_listed m_tells m_wanted m_found x.1 x.2 m_rings m_ringA m_ringB m_seedNow m_tape m_has m_keptHas m_first m_second m_keptFirst m_keptSecond m_pa m_pb m_pNorm m_cubed m_isOpen m_signs m_often m_la0 m_lb0) := by
  refine kx_ofMV RX11 rfl (plainFor_of_name (x := yX11_fits) kpn_X11) rfl ?_
  intro E A H ls _ C X R hl
  have hl : lv_has ls 11 [(0, .ref (h 0)), (1, .long v1), (3, .int v3), (4, .int v4)] := hl
  rw [f_X11_fits] at hf
  refine x_iconst 1 C dX11_fits_0 (0 : Int32) kv_iconst_0 rfl ?_
  refine x_istore 3 C dX11_fits_1 [(5, .int (0 : Int32)), (0, .ref (h 0)), (1, .long v1), (3, .int v3), (4, .int v4)] hl rfl rfl rfl (fun ls hl => ?_)
  exact w_X11_fits_3 h C N x m_taped m_states m_ra m_rb m_threes m_primes m_ones m_unit m_allParts m_allNorms m_allClasses m_odd m_boxWide m_boxHigh m_boxStep m_partingMany m_qa m_qb m_la m_lb m_sa m_sb m_ta m_tb m_listed m_tells m_wanted m_found m_rings m_ringA m_ringB m_seedNow m_tape m_has m_keptHas m_first m_second m_keptFirst m_keptSecond m_pa m_pb m_pNorm m_cubed m_isOpen m_signs m_often m_la0 m_lb0 R  N m_bits m_power2 v1 v3 v4 (0 : Int32) _ _ _ X (lv_sub hl [1, 2, 3, 4, 0] rfl) hf
set_option maxHeartbeats 4000000 in
set_option maxRecDepth 100000 in
theorem c_X11_cut (l : Launch) (D : va_G) (T : KT) (h : Nat → Nat)  (m_taped m_states : Int32) (m_ra m_rb : Int64) (m_threes m_primes m_ones m_unit : Int32) (m_allParts m_allNorms m_allClasses : Int64) (m_odd : Int32) (m_boxWide m_boxHigh m_boxStep : Int64) (m_partingMany : Int32) (m_qa m_qb m_la m_lb m_sa m_sb m_ta m_tb : Int64) (m_listed m_tells m_wanted m_found : Int32) (m_bits : Int64) (m_power2 m_rings m_ringA m_ringB m_seedNow : Int32) (m_tape m_has m_keptHas m_first m_second m_keptFirst m_keptSecond m_pa m_pb m_pNorm m_cubed m_isOpen m_signs m_often m_la0 m_lb0 : Nat → Int32) (x : Int32) (hf : f_X11_cut m_bits m_power2 = some x) : kx_MI l yX11_cut cX11_cut 1 (some .int) 0 0 D T [.ref (h 0)] (wM T h m_taped m_states m_ra m_rb m_threes m_primes m_ones m_unit m_allParts m_allNorms m_allClasses m_odd m_boxWide m_boxHigh m_boxStep m_partingMany m_qa m_qb m_la m_lb m_sa m_sb m_ta m_tb m_listed m_tells m_wanted m_found m_bits m_power2 m_rings m_ringA m_ringB m_seedNow m_tape m_has m_keptHas m_first m_second m_keptFirst m_keptSecond m_pa m_pb m_pNorm m_cubed m_isOpen m_signs m_often m_la0 m_lb0) (wM T h m_taped m_states m_ra m_rb m_threes m_primes m_ones m_unit m_allParts m_allNorms m_allClasses m_odd m_boxWide m_boxHigh m_boxStep m_partingMany m_qa m_qb m_la m_lb m_sa m_sb m_ta m_tb m_listed m_tells m_wanted m_found m_bits m_power2 m_rings m_ringA m_ringB m_seedNow m_tape m_has m_keptHas m_first m_second m_keptFirst m_keptSecond m_pa m_pb m_pNorm m_cubed m_isOpen m_signs m_often m_la0 m_lb0) x := by
  refine kx_ofMI RX11 rfl (plainFor_of_name (x := yX11_cut) kpn_X11) rfl ?_
  intro E A H ls _ C X R hl
  have hl : lv_has ls 1 [(0, .ref (h 0))] := hl
  rw [f_X11_cut] at hf
  refine x_aload_n 1 C dX11_cut_0 hl 0 rfl rfl ?_
  refine x_get 4 C dX11_cut_1 X kf_X11_419 0 rfl rfl rfl ?_
  refine x_bipush 6 C dX11_cut_4 (7 : Int32) kv_bipush_7 rfl ?_
  refine x_icmp_le 13 9 C dX11_cut_6 rfl rfl hf (fun hf => ?_) (fun hf => ?_)
  · refine x_aload_n 14 C dX11_cut_13 hl 0 rfl rfl ?_
    refine x_get 17 C dX11_cut_14 X kf_X11_419 0 rfl rfl rfl ?_
    refine x_if_lt 32 20 C dX11_cut_17 rfl rfl hf (fun hf => ?_) (fun hf => ?_)
    · refine x_aload_n 33 C dX11_cut_32 hl 0 rfl rfl ?_
      refine x_get 36 C dX11_cut_33 X kf_X11_419 0 rfl rfl rfl ?_
      refine x_bipush 38 C dX11_cut_36 (-40 : Int32) kv_bipush_m40 rfl ?_
      refine x_icmp_ge 45 41 C dX11_cut_38 rfl rfl hf (fun hf => ?_) (fun hf => ?_)
      · refine x_aload_n 46 C dX11_cut_45 hl 0 rfl rfl ?_
        refine x_get 49 C dX11_cut_46 X kf_X11_416 0 rfl rfl rfl ?_
        refine x_aload_n 50 C dX11_cut_49 hl 0 rfl rfl ?_
        refine x_get 53 C dX11_cut_50 X kf_X11_419 0 rfl rfl rfl ?_
        refine x_ineg 54 C dX11_cut_53 rfl ?_
        refine x_lshr 55 C dX11_cut_54 rfl ?_
        refine x_l2i 56 C dX11_cut_55 rfl ?_
        obtain rfl := Option.some.inj hf
        exact R _ _ _ _ X dX11_cut_56
      refine x_lconst 42 C dX11_cut_41 (0 : Int64) kv_lconst_0 rfl ?_
      refine x_goto 55 C dX11_cut_42 rfl ?_
      refine x_l2i 56 C dX11_cut_55 rfl ?_
      obtain rfl := Option.some.inj hf
      exact R _ _ _ _ X dX11_cut_56
    refine x_aload_n 21 C dX11_cut_20 hl 0 rfl rfl ?_
    refine x_get 24 C dX11_cut_21 X kf_X11_416 0 rfl rfl rfl ?_
    refine x_aload_n 25 C dX11_cut_24 hl 0 rfl rfl ?_
    refine x_get 28 C dX11_cut_25 X kf_X11_419 0 rfl rfl rfl ?_
    refine x_lshl 29 C dX11_cut_28 rfl ?_
    refine x_goto 55 C dX11_cut_29 rfl ?_
    refine x_l2i 56 C dX11_cut_55 rfl ?_
    obtain rfl := Option.some.inj hf
    exact R _ _ _ _ X dX11_cut_56
  refine x_ldc_w 12 C dX11_cut_9 (2147483647 : Int32) kc_X11_422 rfl ?_
  obtain rfl := Option.some.inj hf
  exact R _ _ _ _ X dX11_cut_12
set_option maxHeartbeats 4000000 in
set_option maxRecDepth 100000 in
theorem w_X11_length_140 {E : KE} {A : Nat → Prop} {D : va_G} {T : KT} (h : Nat → Nat) (C : kx_C E cX11_length 12 (some .int) RX11 2 45 D T) (N : Nat) (x : Int32 × Int64 × Int32) (m_taped m_states : Int32) (m_ra m_rb : Int64) (m_threes m_primes m_ones m_unit : Int32) (m_allParts m_allNorms m_allClasses : Int64) (m_odd : Int32) (m_boxWide m_boxHigh m_boxStep : Int64) (m_partingMany : Int32) (m_qa m_qb m_la m_lb m_sa m_sb m_ta m_tb : Int64) (m_listed m_tells m_wanted m_found m_rings m_ringA m_ringB m_seedNow : Int32) (m_tape m_has m_keptHas m_first m_second m_keptFirst m_keptSecond m_pa m_pb m_pNorm m_cubed m_isOpen m_signs m_often m_la0 m_lb0 : Nat → Int32) (R : kx_RI E cX11_length D A (wM T h m_taped m_states m_ra m_rb m_threes m_primes m_ones m_unit m_allParts m_allNorms m_allClasses m_odd m_boxWide m_boxHigh m_boxStep m_partingMany m_qa m_qb m_la m_lb m_sa m_sb m_ta m_tb m_listed m_tells m_wanted m_found x.2.1 x.2.2 m_rings m_ringA m_ringB m_seedNow m_tape m_has m_keptHas m_first m_second m_keptFirst m_keptSecond m_pa m_pb m_pNorm m_cubed m_isOpen m_signs m_often m_la0 m_lb0) x.1) (k77 : Int64 → Int32 → Int64 → Int32 → Int32 → Option (Int32 × Int64 × Int32)) (hk77 : ∀ (m_bits : Int64) (m_power2 : Int32) (v2 : Int64) (v4 : Int32) (v5 : Int64) (v7 v8 : Int32) (H : Heap) (locs : List Loc) (ls : Array Slot), kx_H E D A H locs (wM T h m_taped m_states m_ra m_rb m_threes m_primes m_ones m_unit m_allParts m_allNorms m_allClasses m_odd m_boxWide m_boxHigh m_boxStep m_partingMany m_qa m_qb m_la m_lb m_sa m_sb m_ta m_tb m_listed m_tells m_wanted m_found m_bits m_power2 m_rings m_ringA m_ringB m_seedNow m_tape m_has m_keptHas m_first m_second m_keptFirst m_keptSecond m_pa m_pb m_pNorm m_cubed m_isOpen m_signs m_often m_la0 m_lb0) → lv_has ls 12 [(0, .ref (h 0)), (2, .long v2), (4, .int v4), (5, .long v5), (7, .int v7), (8, .int v8)] → k77 v2 v4 v5 v7 v8 = some x → kx_W E H locs 77 ls []) : ∀ (m_bits : Int64) (m_power2 : Int32) (v2 : Int64) (v4 : Int32) (v5 : Int64) (v7 v8 s0 : Int32) (H : Heap) (locs : List Loc) (ls : Array Slot), kx_H E D A H locs (wM T h m_taped m_states m_ra m_rb m_threes m_primes m_ones m_unit m_allParts m_allNorms m_allClasses m_odd m_boxWide m_boxHigh m_boxStep m_partingMany m_qa m_qb m_la m_lb m_sa m_sb m_ta m_tb m_listed m_tells m_wanted m_found m_bits m_power2 m_rings m_ringA m_ringB m_seedNow m_tape m_has m_keptHas m_first m_second m_keptFirst m_keptSecond m_pa m_pb m_pNorm m_cubed m_isOpen m_signs m_often m_la0 m_lb0) → lv_has ls 12 [(0, .ref (h 0)), (2, .long v2), (4, .int v4), (5, .long v5), (7, .int v7), (8, .int v8)] → f_X11_length_140 N k77 v2 v4 v5 v7 v8 s0 m_bits m_power2 = some x → kx_W E H locs 140 ls [.int s0] := by
  intro m_bits m_power2 v2 v4 v5 v7 v8 s0 H locs ls X hl hf
  rw [f_X11_length_140] at hf
  refine x_istore 142 C dX11_length_140 [(11, .int s0), (0, .ref (h 0)), (2, .long v2), (4, .int v4), (5, .long v5), (7, .int v7), (8, .int v8)] hl rfl rfl rfl (fun ls hl => ?_)
  refine x_aload_n 143 C dX11_length_142 hl 1 rfl rfl ?_
  refine x_lload 145 C dX11_length_143 hl 4 rfl rfl ?_
  refine x_iload 147 C dX11_length_145 hl 5 rfl rfl ?_
  refine x_iload 149 C dX11_length_147 hl 0 rfl rfl ?_
  refine x_isub 150 C dX11_length_149 rfl ?_
  refine x_lshl 151 C dX11_length_150 rfl ?_
  refine x_aload_n 152 C dX11_length_151 hl 1 rfl rfl ?_
  refine x_get 155 C dX11_length_152 X kf_X11_416 0 rfl rfl rfl ?_
  refine x_aload_n 156 C dX11_length_155 hl 1 rfl rfl ?_
  refine x_get 159 C dX11_length_156 X kf_X11_419 0 rfl rfl rfl ?_
  refine x_iload 161 C dX11_length_159 hl 0 rfl rfl ?_
  refine x_isub 162 C dX11_length_161 rfl ?_
  refine x_lshl 163 C dX11_length_162 rfl ?_
  refine x_ladd 164 C dX11_length_163 rfl ?_
  refine x_iload 166 C dX11_length_164 hl 0 rfl rfl ?_
  refine x_iconst 167 C dX11_length_166 (0 : Int32) kv_iconst_0 rfl ?_
  obtain ⟨y167, hy167, hf⟩ := kx_bind hf
  refine x_callVv0 170 C dX11_length_167 X hl kl_X11_423 (c_X11_fits E.2.1 D T h N ((v5 <<< (((v7 - s0)).toInt64 &&& 63)) + (m_bits <<< (((m_power2 - s0)).toInt64 &&& 63))) s0 (0 : Int32) m_taped m_states m_ra m_rb m_threes m_primes m_ones m_unit m_allParts m_allNorms m_allClasses m_odd m_boxWide m_boxHigh m_boxStep m_partingMany m_qa m_qb m_la m_lb m_sa m_sb m_ta m_tb m_listed m_tells m_wanted m_found m_bits m_power2 m_rings m_ringA m_ringB m_seedNow m_tape m_has m_keptHas m_first m_second m_keptFirst m_keptSecond m_pa m_pb m_pNorm m_cubed m_isOpen m_signs m_often m_la0 m_lb0 y167 hy167) rfl rfl [] rfl rfl rfl rfl rfl rfl (fun H locs X => ?_)
  refine x_aload_n 171 C dX11_length_170 hl 1 rfl rfl ?_
  refine x_get 174 C dX11_length_171 X kf_X11_416 0 rfl rfl rfl ?_
  refine x_lstore 176 C dX11_length_174 [(5, .long y167.1), (11, .int s0), (0, .ref (h 0)), (2, .long v2), (4, .int v4), (7, .int v7), (8, .int v8)] hl rfl rfl rfl (fun ls hl => ?_)
  refine x_aload_n 177 C dX11_length_176 hl 2 rfl rfl ?_
  refine x_get 180 C dX11_length_177 X kf_X11_419 0 rfl rfl rfl ?_
  refine x_iconst 181 C dX11_length_180 (1 : Int32) kv_iconst_1 rfl ?_
  refine x_isub 182 C dX11_length_181 rfl ?_
  refine x_istore 184 C dX11_length_182 [(7, .int (y167.2 - (1 : Int32))), (5, .long y167.1), (11, .int s0), (0, .ref (h 0)), (2, .long v2), (4, .int v4), (8, .int v8)] hl rfl rfl rfl (fun ls hl => ?_)
  refine x_iinc 187 C dX11_length_184 (1 : Int32) kv_iconst_1 [(8, .int (v8 + (1 : Int32))), (7, .int (y167.2 - (1 : Int32))), (5, .long y167.1), (11, .int s0), (0, .ref (h 0)), (2, .long v2), (4, .int v4)] hl 6 rfl rfl rfl rfl (fun ls hl => ?_)
  refine x_goto 77 C dX11_length_187 rfl ?_
  exact hk77 y167.1 y167.2 v2 v4 y167.1 (y167.2 - (1 : Int32)) (v8 + (1 : Int32)) _ _ _ X (lv_sub hl [4, 5, 6, 2, 1, 0] rfl) hf
set_option maxHeartbeats 4000000 in
set_option maxRecDepth 100000 in
theorem w_X11_length_119 {E : KE} {A : Nat → Prop} {D : va_G} {T : KT} (h : Nat → Nat) (C : kx_C E cX11_length 12 (some .int) RX11 2 45 D T) (N : Nat) (x : Int32 × Int64 × Int32) (m_taped m_states : Int32) (m_ra m_rb : Int64) (m_threes m_primes m_ones m_unit : Int32) (m_allParts m_allNorms m_allClasses : Int64) (m_odd : Int32) (m_boxWide m_boxHigh m_boxStep : Int64) (m_partingMany : Int32) (m_qa m_qb m_la m_lb m_sa m_sb m_ta m_tb : Int64) (m_listed m_tells m_wanted m_found m_rings m_ringA m_ringB m_seedNow : Int32) (m_tape m_has m_keptHas m_first m_second m_keptFirst m_keptSecond m_pa m_pb m_pNorm m_cubed m_isOpen m_signs m_often m_la0 m_lb0 : Nat → Int32) (R : kx_RI E cX11_length D A (wM T h m_taped m_states m_ra m_rb m_threes m_primes m_ones m_unit m_allParts m_allNorms m_allClasses m_odd m_boxWide m_boxHigh m_boxStep m_partingMany m_qa m_qb m_la m_lb m_sa m_sb m_ta m_tb m_listed m_tells m_wanted m_found x.2.1 x.2.2 m_rings m_ringA m_ringB m_seedNow m_tape m_has m_keptHas m_first m_second m_keptFirst m_keptSecond m_pa m_pb m_pNorm m_cubed m_isOpen m_signs m_often m_la0 m_lb0) x.1) (k77 : Int64 → Int32 → Int64 → Int32 → Int32 → Option (Int32 × Int64 × Int32)) (hk77 : ∀ (m_bits : Int64) (m_power2 : Int32) (v2 : Int64) (v4 : Int32) (v5 : Int64) (v7 v8 : Int32) (H : Heap) (locs : List Loc) (ls : Array Slot), kx_H E D A H locs (wM T h m_taped m_states m_ra m_rb m_threes m_primes m_ones m_unit m_allParts m_allNorms m_allClasses m_odd m_boxWide m_boxHigh m_boxStep m_partingMany m_qa m_qb m_la m_lb m_sa m_sb m_ta m_tb m_listed m_tells m_wanted m_found m_bits m_power2 m_rings m_ringA m_ringB m_seedNow m_tape m_has m_keptHas m_first m_second m_keptFirst m_keptSecond m_pa m_pb m_pNorm m_cubed m_isOpen m_signs m_often m_la0 m_lb0) → lv_has ls 12 [(0, .ref (h 0)), (2, .long v2), (4, .int v4), (5, .long v5), (7, .int v7), (8, .int v8)] → k77 v2 v4 v5 v7 v8 = some x → kx_W E H locs 77 ls []) : ∀ (m_bits : Int64) (m_power2 : Int32) (v2 : Int64) (v4 : Int32) (v5 : Int64) (v7 v8 : Int32) (s1 : Int64) (s2 s3 : Int32) (H : Heap) (locs : List Loc) (ls : Array Slot), kx_H E D A H locs (wM T h m_taped m_states m_ra m_rb m_threes m_primes m_ones m_unit m_allParts m_allNorms m_allClasses m_odd m_boxWide m_boxHigh m_boxStep m_partingMany m_qa m_qb m_la m_lb m_sa m_sb m_ta m_tb m_listed m_tells m_wanted m_found m_bits m_power2 m_rings m_ringA m_ringB m_seedNow m_tape m_has m_keptHas m_first m_second m_keptFirst m_keptSecond m_pa m_pb m_pNorm m_cubed m_isOpen m_signs m_often m_la0 m_lb0) → lv_has ls 12 [(0, .ref (h 0)), (2, .long v2), (4, .int v4), (5, .long v5), (7, .int v7), (8, .int v8)] → f_X11_length_119 N k77 v2 v4 v5 v7 v8 s1 s2 s3 = some x → kx_W E H locs 119 ls [.int s3, .int s2, .long s1, .ref (h 0)] := by
  intro m_bits m_power2 v2 v4 v5 v7 v8 s1 s2 s3 H locs ls X hl hf
  rw [f_X11_length_119] at hf
  obtain ⟨y119, hy119, hf⟩ := kx_bind hf
  refine x_callVv0 122 C dX11_length_119 X hl kl_X11_423 (c_X11_fits E.2.1 D T h N s1 s2 s3 m_taped m_states m_ra m_rb m_threes m_primes m_ones m_unit m_allParts m_allNorms m_allClasses m_odd m_boxWide m_boxHigh m_boxStep m_partingMany m_qa m_qb m_la m_lb m_sa m_sb m_ta m_tb m_listed m_tells m_wanted m_found m_bits m_power2 m_rings m_ringA m_ringB m_seedNow m_tape m_has m_keptHas m_first m_second m_keptFirst m_keptSecond m_pa m_pb m_pNorm m_cubed m_isOpen m_signs m_often m_la0 m_lb0 y119 hy119) rfl rfl [] rfl rfl rfl rfl rfl rfl (fun H locs X => ?_)
  refine x_iload 124 C dX11_length_122 hl 4 rfl rfl ?_
  refine x_aload_n 125 C dX11_length_124 hl 0 rfl rfl ?_
  refine x_get 128 C dX11_length_125 X kf_X11_419 0 rfl rfl rfl ?_
  refine x_icmp_ge 136 131 C dX11_length_128 rfl rfl hf (fun hf => ?_) (fun hf => ?_)
  · refine x_aload_n 137 C dX11_length_136 hl 0 rfl rfl ?_
    refine x_get 140 C dX11_length_137 X kf_X11_419 0 rfl rfl rfl ?_
    exact w_X11_length_140 h C N x m_taped m_states m_ra m_rb m_threes m_primes m_ones m_unit m_allParts m_allNorms m_allClasses m_odd m_boxWide m_boxHigh m_boxStep m_partingMany m_qa m_qb m_la m_lb m_sa m_sb m_ta m_tb m_listed m_tells m_wanted m_found m_rings m_ringA m_ringB m_seedNow m_tape m_has m_keptHas m_first m_second m_keptFirst m_keptSecond m_pa m_pb m_pNorm m_cubed m_isOpen m_signs m_often m_la0 m_lb0 R (k77) hk77 y119.1 y119.2 v2 v4 v5 v7 v8 y119.2 _ _ _ X (lv_sub hl [0, 1, 2, 3, 4, 5] rfl) hf
  refine x_iload 133 C dX11_length_131 hl 4 rfl rfl ?_
  refine x_goto 140 C dX11_length_133 rfl ?_
  exact w_X11_length_140 h C N x m_taped m_states m_ra m_rb m_threes m_primes m_ones m_unit m_allParts m_allNorms m_allClasses m_odd m_boxWide m_boxHigh m_boxStep m_partingMany m_qa m_qb m_la m_lb m_sa m_sb m_ta m_tb m_listed m_tells m_wanted m_found m_rings m_ringA m_ringB m_seedNow m_tape m_has m_keptHas m_first m_second m_keptFirst m_keptSecond m_pa m_pb m_pNorm m_cubed m_isOpen m_signs m_often m_la0 m_lb0 R (k77) hk77 y119.1 y119.2 v2 v4 v5 v7 v8 v7 _ _ _ X (lv_sub hl [0, 1, 2, 3, 4, 5] rfl) hf
set_option maxHeartbeats 4000000 in
set_option maxRecDepth 100000 in
theorem w_X11_length_77 {E : KE} {A : Nat → Prop} {D : va_G} {T : KT} (h : Nat → Nat) (C : kx_C E cX11_length 12 (some .int) RX11 2 45 D T) (N : Nat) (x : Int32 × Int64 × Int32) (m_taped m_states : Int32) (m_ra m_rb : Int64) (m_threes m_primes m_ones m_unit : Int32) (m_allParts m_allNorms m_allClasses : Int64) (m_odd : Int32) (m_boxWide m_boxHigh m_boxStep : Int64) (m_partingMany : Int32) (m_qa m_qb m_la m_lb m_sa m_sb m_ta m_tb : Int64) (m_listed m_tells m_wanted m_found m_rings m_ringA m_ringB m_seedNow : Int32) (m_tape m_has m_keptHas m_first m_second m_keptFirst m_keptSecond m_pa m_pb m_pNorm m_cubed m_isOpen m_signs m_often m_la0 m_lb0 : Nat → Int32) (R : kx_RI E cX11_length D A (wM T h m_taped m_states m_ra m_rb m_threes m_primes m_ones m_unit m_allParts m_allNorms m_allClasses m_odd m_boxWide m_boxHigh m_boxStep m_partingMany m_qa m_qb m_la m_lb m_sa m_sb m_ta m_tb m_listed m_tells m_wanted m_found x.2.1 x.2.2 m_rings m_ringA m_ringB m_seedNow m_tape m_has m_keptHas m_first m_second m_keptFirst m_keptSecond m_pa m_pb m_pNorm m_cubed m_isOpen m_signs m_often m_la0 m_lb0) x.1) : ∀ (k : Nat), ∀ (m_bits : Int64) (m_power2 : Int32) (v2 : Int64) (v4 : Int32) (v5 : Int64) (v7 v8 : Int32) (H : Heap) (locs : List Loc) (ls : Array Slot), kx_H E D A H locs (wM T h m_taped m_states m_ra m_rb m_threes m_primes m_ones m_unit m_allParts m_allNorms m_allClasses m_odd m_boxWide m_boxHigh m_boxStep m_partingMany m_qa m_qb m_la m_lb m_sa m_sb m_ta m_tb m_listed m_tells m_wanted m_found m_bits m_power2 m_rings m_ringA m_ringB m_seedNow m_tape m_has m_keptHas m_first m_second m_keptFirst m_keptSecond m_pa m_pb m_pNorm m_cubed m_isOpen m_signs m_often m_la0 m_lb0) → lv_has ls 12 [(0, .ref (h 0)), (2, .long v2), (4, .int v4), (5, .long v5), (7, .int v7), (8, .int v8)] → f_X11_length_77 N k v2 v4 v5 v7 v8 = some x → kx_W E H locs 77 ls [] := by
  intro k
  induction k with
  | zero =>
    intro m_bits m_power2 v2 v4 v5 v7 v8 H locs ls X hl hf
    cases (show (none : Option (Int32 × Int64 × Int32)) = some x from hf)
  | succ k ih =>
    intro m_bits m_power2 v2 v4 v5 v7 v8 H locs ls X hl hf
    rw [f_X11_length_77] at hf
    refine x_iload 79 C dX11_length_77 hl 5 rfl rfl ?_
    refine x_bipush 81 C dX11_length_79 (6 : Int32) kv_bipush_6 rfl ?_
    refine x_icmp_ge 190 84 C dX11_length_81 rfl rfl hf (fun hf => ?_) (fun hf => ?_)
    · refine x_aload_n 191 C dX11_length_190 hl 0 rfl rfl ?_
      refine x_lload 193 C dX11_length_191 hl 3 rfl rfl ?_
      refine x_ldc2_w 196 C dX11_length_193 (1000 : Int64) kc_X11_427 rfl ?_
      refine x_lmul 197 C dX11_length_196 rfl ?_
      refine x_iload 199 C dX11_length_197 hl 4 rfl rfl ?_
      refine x_iconst 200 C dX11_length_199 (0 : Int32) kv_iconst_0 rfl ?_
      obtain ⟨y200, hy200, hf⟩ := kx_bind hf
      refine x_callVv0 203 C dX11_length_200 X hl kl_X11_423 (c_X11_fits E.2.1 D T h N (v5 * (1000 : Int64)) v7 (0 : Int32) m_taped m_states m_ra m_rb m_threes m_primes m_ones m_unit m_allParts m_allNorms m_allClasses m_odd m_boxWide m_boxHigh m_boxStep m_partingMany m_qa m_qb m_la m_lb m_sa m_sb m_ta m_tb m_listed m_tells m_wanted m_found m_bits m_power2 m_rings m_ringA m_ringB m_seedNow m_tape m_has m_keptHas m_first m_second m_keptFirst m_keptSecond m_pa m_pb m_pNorm m_cubed m_isOpen m_signs m_often m_la0 m_lb0 y200 hy200) rfl rfl [] rfl rfl rfl rfl rfl rfl (fun H locs X => ?_)
      refine x_aload_n 204 C dX11_length_203 hl 0 rfl rfl ?_
      obtain ⟨y204, hy204, hf⟩ := kx_bind hf
      refine x_callVi0 207 C dX11_length_204 X hl kl_X11_429 (c_X11_cut E.2.1 D T h  m_taped m_states m_ra m_rb m_threes m_primes m_ones m_unit m_allParts m_allNorms m_allClasses m_odd m_boxWide m_boxHigh m_boxStep m_partingMany m_qa m_qb m_la m_lb m_sa m_sb m_ta m_tb m_listed m_tells m_wanted m_found y200.1 y200.2 m_rings m_ringA m_ringB m_seedNow m_tape m_has m_keptHas m_first m_second m_keptFirst m_keptSecond m_pa m_pb m_pNorm m_cubed m_isOpen m_signs m_often m_la0 m_lb0 y204 hy204) rfl rfl [] rfl rfl rfl rfl rfl rfl (fun H locs X => ?_)
      obtain rfl := Option.some.inj hf
      exact R _ _ _ _ X dX11_length_207
    refine x_lload_n 85 C dX11_length_84 hl 1 rfl rfl ?_
    refine x_bipush 87 C dX11_length_85 (38 : Int32) kv_bipush_38 rfl ?_
    refine x_lshl 88 C dX11_length_87 rfl ?_
    refine x_lstore 90 C dX11_length_88 [(9, .long (v2 <<< (((38 : Int32)).toInt64 &&& 63))), (0, .ref (h 0)), (2, .long v2), (4, .int v4), (5, .long v5), (7, .int v7), (8, .int v8)] hl rfl rfl rfl (fun ls hl => ?_)
    refine x_aload_n 91 C dX11_length_90 hl 1 rfl rfl ?_
    refine x_lload 93 C dX11_length_91 hl 0 rfl rfl ?_
    refine x_lload 95 C dX11_length_93 hl 4 rfl rfl ?_
    refine x_ldiv 96 C dX11_length_95 hf rfl (fun hf => ?_)
    refine x_iload 98 C dX11_length_96 hl 3 rfl rfl ?_
    refine x_iload 100 C dX11_length_98 hl 5 rfl rfl ?_
    refine x_isub 101 C dX11_length_100 rfl ?_
    refine x_bipush 103 C dX11_length_101 (38 : Int32) kv_bipush_38 rfl ?_
    refine x_isub 104 C dX11_length_103 rfl ?_
    refine x_lload 106 C dX11_length_104 hl 0 rfl rfl ?_
    refine x_lload 108 C dX11_length_106 hl 4 rfl rfl ?_
    refine x_lrem 109 C dX11_length_108 hf rfl (fun hf => ?_)
    refine x_lconst 110 C dX11_length_109 (0 : Int64) kv_lconst_0 rfl ?_
    refine x_lcmp_eq 118 111 114 C dX11_length_110 dX11_length_111 rfl rfl rfl hf (fun hf => ?_) (fun hf => ?_)
    · refine x_iconst 119 C dX11_length_118 (0 : Int32) kv_iconst_0 rfl ?_
      exact w_X11_length_119 h C N x m_taped m_states m_ra m_rb m_threes m_primes m_ones m_unit m_allParts m_allNorms m_allClasses m_odd m_boxWide m_boxHigh m_boxStep m_partingMany m_qa m_qb m_la m_lb m_sa m_sb m_ta m_tb m_listed m_tells m_wanted m_found m_rings m_ringA m_ringB m_seedNow m_tape m_has m_keptHas m_first m_second m_keptFirst m_keptSecond m_pa m_pb m_pNorm m_cubed m_isOpen m_signs m_often m_la0 m_lb0 R (f_X11_length_77 N k) ih m_bits m_power2 v2 v4 v5 v7 v8 ((v2 <<< (((38 : Int32)).toInt64 &&& 63)) / v5) ((v4 - v7) - (38 : Int32)) (0 : Int32) _ _ _ X (lv_sub hl [1, 2, 3, 4, 5, 6] rfl) hf
    refine x_iconst 115 C dX11_length_114 (1 : Int32) kv_iconst_1 rfl ?_
    refine x_goto 119 C dX11_length_115 rfl ?_
    exact w_X11_length_119 h C N x m_taped m_states m_ra m_rb m_threes m_primes m_ones m_unit m_allParts m_allNorms m_allClasses m_odd m_boxWide m_boxHigh m_boxStep m_partingMany m_qa m_qb m_la m_lb m_sa m_sb m_ta m_tb m_listed m_tells m_wanted m_found m_rings m_ringA m_ringB m_seedNow m_tape m_has m_keptHas m_first m_second m_keptFirst m_keptSecond m_pa m_pb m_pNorm m_cubed m_isOpen m_signs m_often m_la0 m_lb0 R (f_X11_length_77 N k) ih m_bits m_power2 v2 v4 v5 v7 v8 ((v2 <<< (((38 : Int32)).toInt64 &&& 63)) / v5) ((v4 - v7) - (38 : Int32)) (1 : Int32) _ _ _ X (lv_sub hl [1, 2, 3, 4, 5, 6] rfl) hf
set_option maxHeartbeats 4000000 in
set_option maxRecDepth 100000 in
theorem c_X11_length (l : Launch) (D : va_G) (T : KT) (h : Nat → Nat) (N : Nat) (v1 : Int32) (m_taped m_states : Int32) (m_ra m_rb : Int64) (m_threes m_primes m_ones m_unit : Int32) (m_allParts m_allNorms m_allClasses : Int64) (m_odd : Int32) (m_boxWide m_boxHigh m_boxStep : Int64) (m_partingMany : Int32) (m_qa m_qb m_la m_lb m_sa m_sb m_ta m_tb : Int64) (m_listed m_tells m_wanted m_found : Int32) (m_bits : Int64) (m_power2 m_rings m_ringA m_ringB m_seedNow : Int32) (m_tape m_has m_keptHas m_first m_second m_keptFirst m_keptSecond m_pa m_pb m_pNorm m_cubed m_isOpen m_signs m_often m_la0 m_lb0 : Nat → Int32) (x : Int32 × Int64 × Int32) (hf : f_X11_length N v1 m_bits m_power2 m_has m_first m_second = some x) : kx_MI l yX11_length cX11_length 12 (some .int) 2 45 D T [.ref (h 0), .int v1] (wM T h m_taped m_states m_ra m_rb m_threes m_primes m_ones m_unit m_allParts m_allNorms m_allClasses m_odd m_boxWide m_boxHigh m_boxStep m_partingMany m_qa m_qb m_la m_lb m_sa m_sb m_ta m_tb m_listed m_tells m_wanted m_found m_bits m_power2 m_rings m_ringA m_ringB m_seedNow m_tape m_has m_keptHas m_first m_second m_keptFirst m_keptSecond m_pa m_pb m_pNorm m_cubed m_isOpen m_signs m_often m_la0 m_lb0) (wM T h m_taped m_states m_ra m_rb m_threes m_primes m_ones m_unit m_allParts m_allNorms m_allClasses m_odd m_boxWide m_boxHigh m_boxStep m_partingMany m_qa m_qb m_la m_lb m_sa m_sb m_ta m_tb m_listed m_tells m_wanted m_found x.2.1 x.2.2 m_rings m_ringA m_ringB m_seedNow m_tape m_has m_keptHas m_first m_second m_keptFirst m_keptSecond m_pa m_pb m_pNorm m_cubed m_isOpen m_signs m_often m_la0 m_lb0) x.1 := by
  refine kx_ofMI RX11 rfl (plainFor_of_name (x := yX11_length) kpn_X11) rfl ?_
  intro E A H ls _ C X R hl
  have hl : lv_has ls 12 [(0, .ref (h 0)), (1, .int v1)] := hl
  rw [f_X11_length] at hf
  refine x_iload_n 1 C dX11_length_0 hl 1 rfl rfl ?_
  obtain ⟨y1, hy1, hf⟩ := kx_bind hf
  refine x_callSi 4 C dX11_length_1 X hl kl_X11_85 (c_X11_isDrawer E.2.1 D T  v1  y1 hy1) [] rfl rfl rfl rfl rfl cb_7 rfl (fun H locs X => ?_)
  refine x_if_ne 9 7 C dX11_length_4 rfl rfl hf (fun hf => ?_) (fun hf => ?_)
  · refine x_aload_n 10 C dX11_length_9 hl 0 rfl rfl ?_
    refine x_get 13 C dX11_length_10 X kf_X11_13 0 rfl rfl rfl ?_
    refine x_iload_n 14 C dX11_length_13 hl 1 rfl rfl ?_
    refine x_zald 15 C dX11_length_14 X 2 rfl hf rfl (fun hf => ?_)
    refine x_if_ne 21 18 C dX11_length_15 rfl rfl hf (fun hf => ?_) (fun hf => ?_)
    · refine x_aload_n 22 C dX11_length_21 hl 0 rfl rfl ?_
      refine x_iload_n 23 C dX11_length_22 hl 1 rfl rfl ?_
      obtain ⟨y23, hy23, hf⟩ := kx_bind hf
      refine x_callVi0 26 C dX11_length_23 X hl kl_X11_178 (c_X11_isNothing E.2.1 D T h v1 m_taped m_states m_ra m_rb m_threes m_primes m_ones m_unit m_allParts m_allNorms m_allClasses m_odd m_boxWide m_boxHigh m_boxStep m_partingMany m_qa m_qb m_la m_lb m_sa m_sb m_ta m_tb m_listed m_tells m_wanted m_found m_bits m_power2 m_rings m_ringA m_ringB m_seedNow m_tape m_has m_keptHas m_first m_second m_keptFirst m_keptSecond m_pa m_pb m_pNorm m_cubed m_isOpen m_signs m_often m_la0 m_lb0 y23 hy23) rfl rfl [] rfl rfl rfl rfl rfl rfl (fun H locs X => ?_)
      refine x_if_eq 31 29 C dX11_length_26 rfl rfl hf (fun hf => ?_) (fun hf => ?_)
      · refine x_aload_n 32 C dX11_length_31 hl 0 rfl rfl ?_
        refine x_aload_n 33 C dX11_length_32 hl 0 rfl rfl ?_
        refine x_get 36 C dX11_length_33 X kf_X11_20 0 rfl rfl rfl ?_
        refine x_iload_n 37 C dX11_length_36 hl 1 rfl rfl ?_
        refine x_iald 38 C dX11_length_37 X 4 rfl hf rfl (fun hf => ?_)
        refine x_i2l 39 C dX11_length_38 rfl ?_
        refine x_aload_n 40 C dX11_length_39 hl 0 rfl rfl ?_
        refine x_get 43 C dX11_length_40 X kf_X11_24 0 rfl rfl rfl ?_
        refine x_iload_n 44 C dX11_length_43 hl 1 rfl rfl ?_
        refine x_iald 45 C dX11_length_44 X 5 rfl hf rfl (fun hf => ?_)
        refine x_i2l 46 C dX11_length_45 rfl ?_
        obtain ⟨y46, hy46, hf⟩ := kx_bind hf
        refine x_callSl 49 C dX11_length_46 X hl kl_X11_112 (c_X11_norm E.2.1 D T  ((m_first (v1).toNatClampNeg)).toInt64 ((m_second (v1).toNatClampNeg)).toInt64  y46 hy46) [.ref (h 0)] rfl rfl rfl rfl rfl cb_7 rfl (fun H locs X => ?_)
        refine x_iconst 50 C dX11_length_49 (0 : Int32) kv_iconst_0 rfl ?_
        refine x_iconst 51 C dX11_length_50 (0 : Int32) kv_iconst_0 rfl ?_
        obtain ⟨y51, hy51, hf⟩ := kx_bind hf
        refine x_callVv0 54 C dX11_length_51 X hl kl_X11_423 (c_X11_fits E.2.1 D T h N y46 (0 : Int32) (0 : Int32) m_taped m_states m_ra m_rb m_threes m_primes m_ones m_unit m_allParts m_allNorms m_allClasses m_odd m_boxWide m_boxHigh m_boxStep m_partingMany m_qa m_qb m_la m_lb m_sa m_sb m_ta m_tb m_listed m_tells m_wanted m_found m_bits m_power2 m_rings m_ringA m_ringB m_seedNow m_tape m_has m_keptHas m_first m_second m_keptFirst m_keptSecond m_pa m_pb m_pNorm m_cubed m_isOpen m_signs m_often m_la0 m_lb0 y51 hy51) rfl rfl [] rfl rfl rfl rfl rfl rfl (fun H locs X => ?_)
        refine x_aload_n 55 C dX11_length_54 hl 0 rfl rfl ?_
        refine x_get 58 C dX11_length_55 X kf_X11_416 0 rfl rfl rfl ?_
        refine x_lstore_n 59 C dX11_length_58 [(2, .long y51.1), (0, .ref (h 0)), (1, .int v1)] hl rfl rfl rfl (fun ls hl => ?_)
        refine x_aload_n 60 C dX11_length_59 hl 1 rfl rfl ?_
        refine x_get 63 C dX11_length_60 X kf_X11_419 0 rfl rfl rfl ?_
        refine x_istore 65 C dX11_length_63 [(4, .int y51.2), (2, .long y51.1), (0, .ref (h 0)), (1, .int v1)] hl rfl rfl rfl (fun ls hl => ?_)
        refine x_lload_n 66 C dX11_length_65 hl 1 rfl rfl ?_
        refine x_lstore 68 C dX11_length_66 [(5, .long y51.1), (4, .int y51.2), (2, .long y51.1), (0, .ref (h 0)), (1, .int v1)] hl rfl rfl rfl (fun ls hl => ?_)
        refine x_iload 70 C dX11_length_68 hl 1 rfl rfl ?_
        refine x_iconst 71 C dX11_length_70 (1 : Int32) kv_iconst_1 rfl ?_
        refine x_isub 72 C dX11_length_71 rfl ?_
        refine x_istore 74 C dX11_length_72 [(7, .int (y51.2 - (1 : Int32))), (5, .long y51.1), (4, .int y51.2), (2, .long y51.1), (0, .ref (h 0)), (1, .int v1)] hl rfl rfl rfl (fun ls hl => ?_)
        refine x_iconst 75 C dX11_length_74 (0 : Int32) kv_iconst_0 rfl ?_
        refine x_istore 77 C dX11_length_75 [(8, .int (0 : Int32)), (7, .int (y51.2 - (1 : Int32))), (5, .long y51.1), (4, .int y51.2), (2, .long y51.1), (0, .ref (h 0)), (1, .int v1)] hl rfl rfl rfl (fun ls hl => ?_)
        exact w_X11_length_77 h C N x m_taped m_states m_ra m_rb m_threes m_primes m_ones m_unit m_allParts m_allNorms m_allClasses m_odd m_boxWide m_boxHigh m_boxStep m_partingMany m_qa m_qb m_la m_lb m_sa m_sb m_ta m_tb m_listed m_tells m_wanted m_found m_rings m_ringA m_ringB m_seedNow m_tape m_has m_keptHas m_first m_second m_keptFirst m_keptSecond m_pa m_pb m_pNorm m_cubed m_isOpen m_signs m_often m_la0 m_lb0 R  N y51.1 y51.2 y51.1 y51.2 y51.1 (y51.2 - (1 : Int32)) (0 : Int32) _ _ _ X (lv_sub hl [5, 4, 3, 2, 1, 0] rfl) hf
      refine x_iconst 30 C dX11_length_29 (0 : Int32) kv_iconst_0 rfl ?_
      obtain rfl := Option.some.inj hf
      exact R _ _ _ _ X dX11_length_30
    refine x_bipush 20 C dX11_length_18 (-2 : Int32) kv_bipush_m2 rfl ?_
    obtain rfl := Option.some.inj hf
    exact R _ _ _ _ X dX11_length_20
  refine x_iconst 8 C dX11_length_7 (-1 : Int32) kv_iconst_m1 rfl ?_
  obtain rfl := Option.some.inj hf
  exact R _ _ _ _ X dX11_length_8
set_option maxHeartbeats 4000000 in
set_option maxRecDepth 100000 in
theorem w_X10_middle_19 {E : KE} {A : Nat → Prop} {D : va_G} {T : KT} (h : Nat → Nat) (C : kx_C E cX10_middle 5 (some .int) RX10 2 46 D T) (N : Nat) (x : Int32 × Int64 × Int64) (m_drawers_full m_drawers_kept : Int32) (m_drawers_partA m_drawers_partB m_drawers_keptA m_drawers_keptB m_drawers_keptFull : Nat → Int32) (m_tape_size m_tape_plain m_tape_omegas m_tape_end m_tape_place m_tape_plainTold m_tape_omegasTold : Int32) (m_tape_bytes : Nat → Int32) (m_euclid_count : Int32) (m_euclid_last_a m_euclid_last_b m_euclid_lastOfFirst_a m_euclid_lastOfFirst_b m_euclid_lastOfSecond_a m_euclid_lastOfSecond_b m_euclid_next_a m_euclid_next_b m_euclid_nextOfFirst_a m_euclid_nextOfFirst_b m_euclid_nextOfSecond_a m_euclid_nextOfSecond_b m_euclid_q_a m_euclid_q_b : Int64) (m_euclid_quotientA m_euclid_quotientB : Nat → Int64) (m_modulus_step m_modulus_width m_modulus_slant m_modulus_square_a m_modulus_square_b : Int64) (m_factors_count m_factors_threes m_factors_unit : Int32) (m_factors_primeA m_factors_primeB m_factors_norms : Nat → Int64) (m_factors_euclid_count : Int32) (m_factors_euclid_last_a m_factors_euclid_last_b m_factors_euclid_lastOfFirst_a m_factors_euclid_lastOfFirst_b m_factors_euclid_lastOfSecond_a m_factors_euclid_lastOfSecond_b m_factors_euclid_next_a m_factors_euclid_next_b m_factors_euclid_nextOfFirst_a m_factors_euclid_nextOfFirst_b m_factors_euclid_nextOfSecond_a m_factors_euclid_nextOfSecond_b m_factors_euclid_q_a m_factors_euclid_q_b : Int64) (m_factors_euclid_quotientA m_factors_euclid_quotientB : Nat → Int64) (m_factors_left_a m_factors_left_b m_factors_found_a m_factors_found_b m_factors_product_a m_factors_product_b : Int64) (m_primes_count : Int32) (m_primes_primeA m_primes_primeB : Nat → Int32) (m_primes_found_a m_primes_found_b : Int64) (m_rings_foundA m_rings_foundB m_rings_all m_rings_mostOfOneRow m_letters_count : Int32) (m_letters_bytes : Nat → Int32) (m_two_a m_two_b m_three_a m_three_b m_four_a m_four_b m_out_a m_out_b m_spare_a m_spare_b : Int64) (m_marks : Nat → Int32) (R : kx_RI E cX10_middle D A (wC T h m_drawers_full m_drawers_kept m_drawers_partA m_drawers_partB m_drawers_keptA m_drawers_keptB m_drawers_keptFull m_tape_size m_tape_plain m_tape_omegas m_tape_end m_tape_place m_tape_plainTold m_tape_omegasTold m_tape_bytes m_euclid_count m_euclid_last_a m_euclid_last_b m_euclid_lastOfFirst_a m_euclid_lastOfFirst_b m_euclid_lastOfSecond_a m_euclid_lastOfSecond_b m_euclid_next_a m_euclid_next_b m_euclid_nextOfFirst_a m_euclid_nextOfFirst_b m_euclid_nextOfSecond_a m_euclid_nextOfSecond_b m_euclid_q_a m_euclid_q_b m_euclid_quotientA m_euclid_quotientB m_modulus_step m_modulus_width m_modulus_slant m_modulus_square_a m_modulus_square_b m_factors_count m_factors_threes m_factors_unit m_factors_primeA m_factors_primeB m_factors_norms m_factors_euclid_count m_factors_euclid_last_a m_factors_euclid_last_b m_factors_euclid_lastOfFirst_a m_factors_euclid_lastOfFirst_b m_factors_euclid_lastOfSecond_a m_factors_euclid_lastOfSecond_b m_factors_euclid_next_a m_factors_euclid_next_b m_factors_euclid_nextOfFirst_a m_factors_euclid_nextOfFirst_b m_factors_euclid_nextOfSecond_a m_factors_euclid_nextOfSecond_b m_factors_euclid_q_a m_factors_euclid_q_b m_factors_euclid_quotientA m_factors_euclid_quotientB m_factors_left_a m_factors_left_b m_factors_found_a m_factors_found_b m_factors_product_a m_factors_product_b m_primes_count m_primes_primeA m_primes_primeB m_primes_found_a m_primes_found_b m_rings_foundA m_rings_foundB m_rings_all m_rings_mostOfOneRow m_letters_count m_letters_bytes x.2.1 x.2.2 m_two_a m_two_b m_three_a m_three_b m_four_a m_four_b m_out_a m_out_b m_spare_a m_spare_b m_marks) x.1) : ∀ (k : Nat), ∀ (m_one_a m_one_b : Int64) (v1 : Int32) (v2 : UInt32) (v3 v4 : Int32) (H : Heap) (locs : List Loc) (ls : Array Slot), kx_H E D A H locs (wC T h m_drawers_full m_drawers_kept m_drawers_partA m_drawers_partB m_drawers_keptA m_drawers_keptB m_drawers_keptFull m_tape_size m_tape_plain m_tape_omegas m_tape_end m_tape_place m_tape_plainTold m_tape_omegasTold m_tape_bytes m_euclid_count m_euclid_last_a m_euclid_last_b m_euclid_lastOfFirst_a m_euclid_lastOfFirst_b m_euclid_lastOfSecond_a m_euclid_lastOfSecond_b m_euclid_next_a m_euclid_next_b m_euclid_nextOfFirst_a m_euclid_nextOfFirst_b m_euclid_nextOfSecond_a m_euclid_nextOfSecond_b m_euclid_q_a m_euclid_q_b m_euclid_quotientA m_euclid_quotientB m_modulus_step m_modulus_width m_modulus_slant m_modulus_square_a m_modulus_square_b m_factors_count m_factors_threes m_factors_unit m_factors_primeA m_factors_primeB m_factors_norms m_factors_euclid_count m_factors_euclid_last_a m_factors_euclid_last_b m_factors_euclid_lastOfFirst_a m_factors_euclid_lastOfFirst_b m_factors_euclid_lastOfSecond_a m_factors_euclid_lastOfSecond_b m_factors_euclid_next_a m_factors_euclid_next_b m_factors_euclid_nextOfFirst_a m_factors_euclid_nextOfFirst_b m_factors_euclid_nextOfSecond_a m_factors_euclid_nextOfSecond_b m_factors_euclid_q_a m_factors_euclid_q_b m_factors_euclid_quotientA m_factors_euclid_quotientB m_factors_left_a m_factors_left_b m_factors_found_a m_factors_found_b m_factors_product_a m_factors_product_b m_primes_count m_primes_primeA m_primes_primeB m_primes_found_a m_primes_found_b m_rings_foundA m_rings_foundB m_rings_all m_rings_mostOfOneRow m_letters_count m_letters_bytes m_one_a m_one_b m_two_a m_two_b m_three_a m_three_b m_four_a m_four_b m_out_a m_out_b m_spare_a m_spare_b m_marks) → lv_has ls 5 [(0, .ref (h 0)), (1, .int v1), (2, .float v2), (3, .int v3), (4, .int v4)] → f_X10_middle_19 N k v1 v2 v3 v4 m_drawers_full m_drawers_partA m_drawers_partB m_one_a m_one_b = some x → kx_W E H locs 19 ls [] := by
  intro k
  induction k with
  | zero =>
    intro m_one_a m_one_b v1 v2 v3 v4 H locs ls X hl hf
    cases (show (none : Option (Int32 × Int64 × Int64)) = some x from hf)
  | succ k ih =>
    intro m_one_a m_one_b v1 v2 v3 v4 H locs ls X hl hf
    rw [f_X10_middle_19] at hf
    refine x_iload 21 C dX10_middle_19 hl 4 rfl rfl ?_
    refine x_bipush 23 C dX10_middle_21 (8 : Int32) kv_bipush_8 rfl ?_
    refine x_icmp_ge 72 26 C dX10_middle_23 rfl rfl hf (fun hf => ?_) (fun hf => ?_)
    · refine x_iload_n 73 C dX10_middle_72 hl 3 rfl rfl ?_
      refine x_if_ne 79 76 C dX10_middle_73 rfl rfl hf (fun hf => ?_) (fun hf => ?_)
      · refine x_fload_n 80 C dX10_middle_79 hl 2 rfl rfl ?_
        refine x_iload_n 81 C dX10_middle_80 hl 3 rfl rfl ?_
        refine x_i2f 82 C dX10_middle_81 rfl ?_
        refine x_fdiv 83 C dX10_middle_82 hf rfl (fun hf => ?_)
        refine x_ldcf_w 86 C dX10_middle_83 (1120403456 : UInt32) kc_X10_430 rfl ?_
        refine x_fmul 87 C dX10_middle_86 hf rfl (fun hf => ?_)
        refine x_f2i 88 C dX10_middle_87 rfl ?_
        obtain rfl := Option.some.inj hf
        exact R _ _ _ _ X dX10_middle_88
      refine x_ldc 78 C dX10_middle_76 (-2147483648 : Int32) kc_X10_140 rfl ?_
      obtain rfl := Option.some.inj hf
      exact R _ _ _ _ X dX10_middle_78
    refine x_aload_n 27 C dX10_middle_26 hl 0 rfl rfl ?_
    refine x_get 30 C dX10_middle_27 X kf_X10_12 0 rfl rfl rfl ?_
    refine x_iload 32 C dX10_middle_30 hl 4 rfl rfl ?_
    obtain ⟨y32, hy32, hf⟩ := kx_bind hf
    refine x_callVi 35 C dX10_middle_32 X hl kl_X10_130 (c_X0_has E.2.1 D T (h 1) (h 2) (h 3) (h 4) (h 5) (h 6) v4 m_drawers_full m_drawers_kept y32 hy32) rfl rfl [] rfl rfl rfl rfl rfl cb_9 rfl (fun H locs X => ?_)
    refine x_if_eq 66 38 C dX10_middle_35 rfl rfl hf (fun hf => ?_) (fun hf => ?_)
    · refine x_iinc 69 C dX10_middle_66 (1 : Int32) kv_iconst_1 [(4, .int (v4 + (1 : Int32))), (0, .ref (h 0)), (1, .int v1), (2, .float v2), (3, .int v3)] hl 4 rfl rfl rfl rfl (fun ls hl => ?_)
      refine x_goto 19 C dX10_middle_69 rfl ?_
      exact ih m_one_a m_one_b v1 v2 v3 (v4 + (1 : Int32)) _ _ _ X (lv_sub hl [1, 2, 3, 4, 0] rfl) hf
    refine x_aload_n 39 C dX10_middle_38 hl 0 rfl rfl ?_
    refine x_get 42 C dX10_middle_39 X kf_X10_12 0 rfl rfl rfl ?_
    refine x_iload 44 C dX10_middle_42 hl 4 rfl rfl ?_
    refine x_aload_n 45 C dX10_middle_44 hl 0 rfl rfl ?_
    refine x_get 48 C dX10_middle_45 X kf_X10_70 0 rfl rfl rfl ?_
    obtain ⟨y48, hy48, hf⟩ := kx_bind hf
    refine x_callVv 51 C dX10_middle_48 X hl kl_X10_141 (c_X0_load E.2.1 D T (h 1) (h 2) (h 3) (h 4) (h 5) (h 6) (h 45) v4 m_drawers_full m_drawers_kept m_drawers_partA m_drawers_partB m_one_a m_one_b y48 hy48) rfl rfl [] rfl rfl rfl rfl rfl cb_11 rfl (fun H locs X => ?_)
    refine x_fload_n 52 C dX10_middle_51 hl 2 rfl rfl ?_
    refine x_aload_n 53 C dX10_middle_52 hl 0 rfl rfl ?_
    refine x_get 56 C dX10_middle_53 X kf_X10_70 0 rfl rfl rfl ?_
    refine x_iload_n 57 C dX10_middle_56 hl 1 rfl rfl ?_
    obtain ⟨y57, hy57, hf⟩ := kx_bind hf
    refine x_callSi 60 C dX10_middle_57 X hl kl_X10_273 (c_X10_part E.2.1 D T (h 45) v1 y48.1 y48.2 y57 hy57) [.float v2] rfl rfl rfl rfl rfl cb_99 rfl (fun H locs X => ?_)
    refine x_i2f 61 C dX10_middle_60 rfl ?_
    refine x_fadd 62 C dX10_middle_61 hf rfl (fun hf => ?_)
    refine x_fstore_n 63 C dX10_middle_62 [(2, .float (FP.fadd v2 (FP.i2f y57))), (0, .ref (h 0)), (1, .int v1), (3, .int v3), (4, .int v4)] hl rfl rfl rfl (fun ls hl => ?_)
    refine x_iinc 66 C dX10_middle_63 (1 : Int32) kv_iconst_1 [(3, .int (v3 + (1 : Int32))), (2, .float (FP.fadd v2 (FP.i2f y57))), (0, .ref (h 0)), (1, .int v1), (4, .int v4)] hl 3 rfl rfl rfl rfl (fun ls hl => ?_)
    refine x_iinc 69 C dX10_middle_66 (1 : Int32) kv_iconst_1 [(4, .int (v4 + (1 : Int32))), (3, .int (v3 + (1 : Int32))), (2, .float (FP.fadd v2 (FP.i2f y57))), (0, .ref (h 0)), (1, .int v1)] hl 4 rfl rfl rfl rfl (fun ls hl => ?_)
    refine x_goto 19 C dX10_middle_69 rfl ?_
    exact ih y48.1 y48.2 v1 (FP.fadd v2 (FP.i2f y57)) (v3 + (1 : Int32)) (v4 + (1 : Int32)) _ _ _ X (lv_sub hl [3, 4, 2, 1, 0] rfl) hf
set_option maxHeartbeats 4000000 in
set_option maxRecDepth 100000 in
theorem c_X10_middle (l : Launch) (D : va_G) (T : KT) (h : Nat → Nat) (N : Nat) (v1 : Int32) (m_drawers_full m_drawers_kept : Int32) (m_drawers_partA m_drawers_partB m_drawers_keptA m_drawers_keptB m_drawers_keptFull : Nat → Int32) (m_tape_size m_tape_plain m_tape_omegas m_tape_end m_tape_place m_tape_plainTold m_tape_omegasTold : Int32) (m_tape_bytes : Nat → Int32) (m_euclid_count : Int32) (m_euclid_last_a m_euclid_last_b m_euclid_lastOfFirst_a m_euclid_lastOfFirst_b m_euclid_lastOfSecond_a m_euclid_lastOfSecond_b m_euclid_next_a m_euclid_next_b m_euclid_nextOfFirst_a m_euclid_nextOfFirst_b m_euclid_nextOfSecond_a m_euclid_nextOfSecond_b m_euclid_q_a m_euclid_q_b : Int64) (m_euclid_quotientA m_euclid_quotientB : Nat → Int64) (m_modulus_step m_modulus_width m_modulus_slant m_modulus_square_a m_modulus_square_b : Int64) (m_factors_count m_factors_threes m_factors_unit : Int32) (m_factors_primeA m_factors_primeB m_factors_norms : Nat → Int64) (m_factors_euclid_count : Int32) (m_factors_euclid_last_a m_factors_euclid_last_b m_factors_euclid_lastOfFirst_a m_factors_euclid_lastOfFirst_b m_factors_euclid_lastOfSecond_a m_factors_euclid_lastOfSecond_b m_factors_euclid_next_a m_factors_euclid_next_b m_factors_euclid_nextOfFirst_a m_factors_euclid_nextOfFirst_b m_factors_euclid_nextOfSecond_a m_factors_euclid_nextOfSecond_b m_factors_euclid_q_a m_factors_euclid_q_b : Int64) (m_factors_euclid_quotientA m_factors_euclid_quotientB : Nat → Int64) (m_factors_left_a m_factors_left_b m_factors_found_a m_factors_found_b m_factors_product_a m_factors_product_b : Int64) (m_primes_count : Int32) (m_primes_primeA m_primes_primeB : Nat → Int32) (m_primes_found_a m_primes_found_b : Int64) (m_rings_foundA m_rings_foundB m_rings_all m_rings_mostOfOneRow m_letters_count : Int32) (m_letters_bytes : Nat → Int32) (m_one_a m_one_b m_two_a m_two_b m_three_a m_three_b m_four_a m_four_b m_out_a m_out_b m_spare_a m_spare_b : Int64) (m_marks : Nat → Int32) (x : Int32 × Int64 × Int64) (hf : f_X10_middle N v1 m_drawers_full m_drawers_partA m_drawers_partB m_one_a m_one_b = some x) : kx_MI l yX10_middle cX10_middle 5 (some .int) 2 46 D T [.ref (h 0), .int v1] (wC T h m_drawers_full m_drawers_kept m_drawers_partA m_drawers_partB m_drawers_keptA m_drawers_keptB m_drawers_keptFull m_tape_size m_tape_plain m_tape_omegas m_tape_end m_tape_place m_tape_plainTold m_tape_omegasTold m_tape_bytes m_euclid_count m_euclid_last_a m_euclid_last_b m_euclid_lastOfFirst_a m_euclid_lastOfFirst_b m_euclid_lastOfSecond_a m_euclid_lastOfSecond_b m_euclid_next_a m_euclid_next_b m_euclid_nextOfFirst_a m_euclid_nextOfFirst_b m_euclid_nextOfSecond_a m_euclid_nextOfSecond_b m_euclid_q_a m_euclid_q_b m_euclid_quotientA m_euclid_quotientB m_modulus_step m_modulus_width m_modulus_slant m_modulus_square_a m_modulus_square_b m_factors_count m_factors_threes m_factors_unit m_factors_primeA m_factors_primeB m_factors_norms m_factors_euclid_count m_factors_euclid_last_a m_factors_euclid_last_b m_factors_euclid_lastOfFirst_a m_factors_euclid_lastOfFirst_b m_factors_euclid_lastOfSecond_a m_factors_euclid_lastOfSecond_b m_factors_euclid_next_a m_factors_euclid_next_b m_factors_euclid_nextOfFirst_a m_factors_euclid_nextOfFirst_b m_factors_euclid_nextOfSecond_a m_factors_euclid_nextOfSecond_b m_factors_euclid_q_a m_factors_euclid_q_b m_factors_euclid_quotientA m_factors_euclid_quotientB m_factors_left_a m_factors_left_b m_factors_found_a m_factors_found_b m_factors_product_a m_factors_product_b m_primes_count m_primes_primeA m_primes_primeB m_primes_found_a m_primes_found_b m_rings_foundA m_rings_foundB m_rings_all m_rings_mostOfOneRow m_letters_count m_letters_bytes m_one_a m_one_b m_two_a m_two_b m_three_a m_three_b m_four_a m_four_b m_out_a m_out_b m_spare_a m_spare_b m_marks) (wC T h m_drawers_full m_drawers_kept m_drawers_partA m_drawers_partB m_drawers_keptA m_drawers_keptB m_drawers_keptFull m_tape_size m_tape_plain m_tape_omegas m_tape_end m_tape_place m_tape_plainTold m_tape_omegasTold m_tape_bytes m_euclid_count m_euclid_last_a m_euclid_last_b m_euclid_lastOfFirst_a m_euclid_lastOfFirst_b m_euclid_lastOfSecond_a m_euclid_lastOfSecond_b m_euclid_next_a m_euclid_next_b m_euclid_nextOfFirst_a m_euclid_nextOfFirst_b m_euclid_nextOfSecond_a m_euclid_nextOfSecond_b m_euclid_q_a m_euclid_q_b m_euclid_quotientA m_euclid_quotientB m_modulus_step m_modulus_width m_modulus_slant m_modulus_square_a m_modulus_square_b m_factors_count m_factors_threes m_factors_unit m_factors_primeA m_factors_primeB m_factors_norms m_factors_euclid_count m_factors_euclid_last_a m_factors_euclid_last_b m_factors_euclid_lastOfFirst_a m_factors_euclid_lastOfFirst_b m_factors_euclid_lastOfSecond_a m_factors_euclid_lastOfSecond_b m_factors_euclid_next_a m_factors_euclid_next_b m_factors_euclid_nextOfFirst_a m_factors_euclid_nextOfFirst_b m_factors_euclid_nextOfSecond_a m_factors_euclid_nextOfSecond_b m_factors_euclid_q_a m_factors_euclid_q_b m_factors_euclid_quotientA m_factors_euclid_quotientB m_factors_left_a m_factors_left_b m_factors_found_a m_factors_found_b m_factors_product_a m_factors_product_b m_primes_count m_primes_primeA m_primes_primeB m_primes_found_a m_primes_found_b m_rings_foundA m_rings_foundB m_rings_all m_rings_mostOfOneRow m_letters_count m_letters_bytes x.2.1 x.2.2 m_two_a m_two_b m_three_a m_three_b m_four_a m_four_b m_out_a m_out_b m_spare_a m_spare_b m_marks) x.1 := by
  refine kx_ofMI RX10 rfl (plainFor_of_name (x := yX10_middle) kpn_X10) rfl ?_
  intro E A H ls _ C X R hl
  have hl : lv_has ls 5 [(0, .ref (h 0)), (1, .int v1)] := hl
  rw [f_X10_middle] at hf
  refine x_iload_n 1 C dX10_middle_0 hl 1 rfl rfl ?_
  refine x_if_lt 9 4 C dX10_middle_1 rfl rfl hf (fun hf => ?_) (fun hf => ?_)
  · refine x_ldc 11 C dX10_middle_9 (-2147483648 : Int32) kc_X10_140 rfl ?_
    obtain rfl := Option.some.inj hf
    exact R _ _ _ _ X dX10_middle_11
  refine x_iload_n 5 C dX10_middle_4 hl 1 rfl rfl ?_
  refine x_iconst 6 C dX10_middle_5 (1 : Int32) kv_iconst_1 rfl ?_
  refine x_icmp_le 12 9 C dX10_middle_6 rfl rfl hf (fun hf => ?_) (fun hf => ?_)
  · refine x_fconst0 13 C dX10_middle_12 rfl ?_
    refine x_fstore_n 14 C dX10_middle_13 [(2, .float (0 : UInt32)), (0, .ref (h 0)), (1, .int v1)] hl rfl rfl rfl (fun ls hl => ?_)
    refine x_iconst 15 C dX10_middle_14 (0 : Int32) kv_iconst_0 rfl ?_
    refine x_istore_n 16 C dX10_middle_15 [(3, .int (0 : Int32)), (2, .float (0 : UInt32)), (0, .ref (h 0)), (1, .int v1)] hl rfl rfl rfl (fun ls hl => ?_)
    refine x_iconst 17 C dX10_middle_16 (0 : Int32) kv_iconst_0 rfl ?_
    refine x_istore 19 C dX10_middle_17 [(4, .int (0 : Int32)), (3, .int (0 : Int32)), (2, .float (0 : UInt32)), (0, .ref (h 0)), (1, .int v1)] hl rfl rfl rfl (fun ls hl => ?_)
    exact w_X10_middle_19 h C N x m_drawers_full m_drawers_kept m_drawers_partA m_drawers_partB m_drawers_keptA m_drawers_keptB m_drawers_keptFull m_tape_size m_tape_plain m_tape_omegas m_tape_end m_tape_place m_tape_plainTold m_tape_omegasTold m_tape_bytes m_euclid_count m_euclid_last_a m_euclid_last_b m_euclid_lastOfFirst_a m_euclid_lastOfFirst_b m_euclid_lastOfSecond_a m_euclid_lastOfSecond_b m_euclid_next_a m_euclid_next_b m_euclid_nextOfFirst_a m_euclid_nextOfFirst_b m_euclid_nextOfSecond_a m_euclid_nextOfSecond_b m_euclid_q_a m_euclid_q_b m_euclid_quotientA m_euclid_quotientB m_modulus_step m_modulus_width m_modulus_slant m_modulus_square_a m_modulus_square_b m_factors_count m_factors_threes m_factors_unit m_factors_primeA m_factors_primeB m_factors_norms m_factors_euclid_count m_factors_euclid_last_a m_factors_euclid_last_b m_factors_euclid_lastOfFirst_a m_factors_euclid_lastOfFirst_b m_factors_euclid_lastOfSecond_a m_factors_euclid_lastOfSecond_b m_factors_euclid_next_a m_factors_euclid_next_b m_factors_euclid_nextOfFirst_a m_factors_euclid_nextOfFirst_b m_factors_euclid_nextOfSecond_a m_factors_euclid_nextOfSecond_b m_factors_euclid_q_a m_factors_euclid_q_b m_factors_euclid_quotientA m_factors_euclid_quotientB m_factors_left_a m_factors_left_b m_factors_found_a m_factors_found_b m_factors_product_a m_factors_product_b m_primes_count m_primes_primeA m_primes_primeB m_primes_found_a m_primes_found_b m_rings_foundA m_rings_foundB m_rings_all m_rings_mostOfOneRow m_letters_count m_letters_bytes m_two_a m_two_b m_three_a m_three_b m_four_a m_four_b m_out_a m_out_b m_spare_a m_spare_b m_marks R  N m_one_a m_one_b v1 (0 : UInt32) (0 : Int32) (0 : Int32) _ _ _ X (lv_sub hl [3, 4, 2, 1, 0] rfl) hf
  refine x_ldc 11 C dX10_middle_9 (-2147483648 : Int32) kc_X10_140 rfl ?_
  obtain rfl := Option.some.inj hf
  exact R _ _ _ _ X dX10_middle_11
