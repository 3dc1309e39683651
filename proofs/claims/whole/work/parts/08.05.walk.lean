set_option maxHeartbeats 4000000 in
set_option maxRecDepth 100000 in
theorem c_X10_change (l : Launch) (D : va_G) (T : KT) (h : Nat → Nat) (N : Nat) (v1 v2 : Int32) (m_drawers_full m_drawers_kept : Int32) (m_drawers_partA m_drawers_partB m_drawers_keptA m_drawers_keptB m_drawers_keptFull : Nat → Int32) (m_tape_size m_tape_plain m_tape_omegas m_tape_end m_tape_place m_tape_plainTold m_tape_omegasTold : Int32) (m_tape_bytes : Nat → Int32) (m_euclid_count : Int32) (m_euclid_last_a m_euclid_last_b m_euclid_lastOfFirst_a m_euclid_lastOfFirst_b m_euclid_lastOfSecond_a m_euclid_lastOfSecond_b m_euclid_next_a m_euclid_next_b m_euclid_nextOfFirst_a m_euclid_nextOfFirst_b m_euclid_nextOfSecond_a m_euclid_nextOfSecond_b m_euclid_q_a m_euclid_q_b : Int64) (m_euclid_quotientA m_euclid_quotientB : Nat → Int64) (m_modulus_step m_modulus_width m_modulus_slant m_modulus_square_a m_modulus_square_b : Int64) (m_factors_count m_factors_threes m_factors_unit : Int32) (m_factors_primeA m_factors_primeB m_factors_norms : Nat → Int64) (m_factors_euclid_count : Int32) (m_factors_euclid_last_a m_factors_euclid_last_b m_factors_euclid_lastOfFirst_a m_factors_euclid_lastOfFirst_b m_factors_euclid_lastOfSecond_a m_factors_euclid_lastOfSecond_b m_factors_euclid_next_a m_factors_euclid_next_b m_factors_euclid_nextOfFirst_a m_factors_euclid_nextOfFirst_b m_factors_euclid_nextOfSecond_a m_factors_euclid_nextOfSecond_b m_factors_euclid_q_a m_factors_euclid_q_b : Int64) (m_factors_euclid_quotientA m_factors_euclid_quotientB : Nat → Int64) (m_factors_left_a m_factors_left_b m_factors_found_a m_factors_found_b m_factors_product_a m_factors_product_b : Int64) (m_primes_count : Int32) (m_primes_primeA m_primes_primeB : Nat → Int32) (m_primes_found_a m_primes_found_b : Int64) (m_rings_foundA m_rings_foundB m_rings_all m_rings_mostOfOneRow m_letters_count : Int32) (m_letters_bytes : Nat → Int32) (m_one_a m_one_b m_two_a m_two_b m_three_a m_three_b m_four_a m_four_b m_out_a m_out_b m_spare_a m_spare_b : Int64) (m_marks : Nat → Int32) (x : Int32 × Int32 × (Nat → Int32) × (Nat → Int32) × Int64 × Int64) (hf : f_X10_change N v1 v2 m_drawers_full m_drawers_partA m_drawers_partB m_out_a m_out_b = some x) : kx_MI l yX10_change cX10_change 3 (some .int) 4 88 D T [.ref (h 0), .int v1, .int v2] (wC T h m_drawers_full m_drawers_kept m_drawers_partA m_drawers_partB m_drawers_keptA m_drawers_keptB m_drawers_keptFull m_tape_size m_tape_plain m_tape_omegas m_tape_end m_tape_place m_tape_plainTold m_tape_omegasTold m_tape_bytes m_euclid_count m_euclid_last_a m_euclid_last_b m_euclid_lastOfFirst_a m_euclid_lastOfFirst_b m_euclid_lastOfSecond_a m_euclid_lastOfSecond_b m_euclid_next_a m_euclid_next_b m_euclid_nextOfFirst_a m_euclid_nextOfFirst_b m_euclid_nextOfSecond_a m_euclid_nextOfSecond_b m_euclid_q_a m_euclid_q_b m_euclid_quotientA m_euclid_quotientB m_modulus_step m_modulus_width m_modulus_slant m_modulus_square_a m_modulus_square_b m_factors_count m_factors_threes m_factors_unit m_factors_primeA m_factors_primeB m_factors_norms m_factors_euclid_count m_factors_euclid_last_a m_factors_euclid_last_b m_factors_euclid_lastOfFirst_a m_factors_euclid_lastOfFirst_b m_factors_euclid_lastOfSecond_a m_factors_euclid_lastOfSecond_b m_factors_euclid_next_a m_factors_euclid_next_b m_factors_euclid_nextOfFirst_a m_factors_euclid_nextOfFirst_b m_factors_euclid_nextOfSecond_a m_factors_euclid_nextOfSecond_b m_factors_euclid_q_a m_factors_euclid_q_b m_factors_euclid_quotientA m_factors_euclid_quotientB m_factors_left_a m_factors_left_b m_factors_found_a m_factors_found_b m_factors_product_a m_factors_product_b m_primes_count m_primes_primeA m_primes_primeB m_primes_found_a m_primes_found_b m_rings_foundA m_rings_foundB m_rings_all m_rings_mostOfOneRow m_letters_count m_letters_bytes m_one_a m_one_b m_two_a m_two_b m_three_a m_three_b m_four_a m_four_b m_out_a m_out_b m_spare_a m_spare_b m_marks) (wC T h x.2.1 m_drawers_kept x.2.2.1 x.2.2.2.1 m_drawers_keptA m_drawers_keptB m_drawers_keptFull m_tape_size m_tape_plain m_tape_omegas m_tape_end m_tape_place m_tape_plainTold m_tape_omegasTold m_tape_bytes m_euclid_count m_euclid_last_a m_euclid_last_b m_euclid_lastOfFirst_a m_euclid_lastOfFirst_b m_euclid_lastOfSecond_a m_euclid_lastOfSecond_b m_euclid_next_a m_euclid_next_b m_euclid_nextOfFirst_a m_euclid_nextOfFirst_b m_euclid_nextOfSecond_a m_euclid_nextOfSecond_b m_euclid_q_a m_euclid_q_b m_euclid_quotientA m_euclid_quotientB m_modulus_step m_modulus_width m_modulus_slant m_modulus_square_a m_modulus_square_b m_factors_count m_factors_threes m_factors_unit m_factors_primeA m_factors_primeB m_factors_norms m_factors_euclid_count m_factors_euclid_last_a m_factors_euclid_last_b m_factors_euclid_lastOfFirst_a m_factors_euclid_lastOfFirst_b m_factors_euclid_lastOfSecond_a m_factors_euclid_lastOfSecond_b m_factors_euclid_next_a m_factors_euclid_next_b m_factors_euclid_nextOfFirst_a m_factors_euclid_nextOfFirst_b m_factors_euclid_nextOfSecond_a m_factors_euclid_nextOfSecond_b m_factors_euclid_q_a m_factors_euclid_q_b m_factors_euclid_quotientA m_factors_euclid_quotientB m_factors_left_a m_factors_left_b m_factors_found_a m_factors_found_b m_factors_product_a m_factors_product_b m_primes_count m_primes_primeA m_primes_primeB m_primes_found_a m_primes_found_b m_rings_foundA m_rings_foundB m_rings_all m_rings_mostOfOneRow m_letters_count m_letters_bytes m_one_a m_one_b m_two_a m_two_b m_three_a m_three_b m_four_a m_four_b x.2.2.2.2.1 x.2.2.2.2.2 m_spare_a m_spare_b m_marks) x.1 := by
  refine kx_ofMI RX10 rfl (plainFor_of_name (x := yX10_change) kpn_X10) rfl ?_
  intro E A H ls _ C X R hl
  have hl : lv_has ls 3 [(0, .ref (h 0)), (1, .int v1), (2, .int v2)] := hl
  rw [f_X10_change] at hf
  refine x_iload_n 1 C dX10_change_0 hl 1 rfl rfl ?_
  obtain ⟨y1, hy1, hf⟩ := kx_bind hf
  refine x_callSi 4 C dX10_change_1 X hl kl_X10_105 (c_X0_isOne E.2.1 D T  v1  y1 hy1) [] rfl rfl rfl rfl rfl cb_2 rfl (fun H locs X => ?_)
  refine x_if_eq 17 7 C dX10_change_4 rfl rfl hf (fun hf => ?_) (fun hf => ?_)
  · refine x_iconst 18 C dX10_change_17 (-1 : Int32) kv_iconst_m1 rfl ?_
    obtain rfl := Option.some.inj hf
    exact R _ _ _ _ X dX10_change_18
  refine x_iload_n 8 C dX10_change_7 hl 2 rfl rfl ?_
  refine x_if_lt 17 11 C dX10_change_8 rfl rfl hf (fun hf => ?_) (fun hf => ?_)
  · refine x_iconst 18 C dX10_change_17 (-1 : Int32) kv_iconst_m1 rfl ?_
    obtain rfl := Option.some.inj hf
    exact R _ _ _ _ X dX10_change_18
  refine x_iload_n 12 C dX10_change_11 hl 2 rfl rfl ?_
  refine x_bipush 14 C dX10_change_12 (7 : Int32) kv_bipush_7 rfl ?_
  refine x_icmp_le 19 17 C dX10_change_14 rfl rfl hf (fun hf => ?_) (fun hf => ?_)
  · refine x_aload_n 20 C dX10_change_19 hl 0 rfl rfl ?_
    refine x_get 23 C dX10_change_20 X kf_X10_12 0 rfl rfl rfl ?_
    refine x_iload_n 24 C dX10_change_23 hl 1 rfl rfl ?_
    obtain ⟨y24, hy24, hf⟩ := kx_bind hf
    refine x_callVi 27 C dX10_change_24 X hl kl_X10_130 (c_X0_has E.2.1 D T (h 1) (h 2) (h 3) (h 4) (h 5) (h 6) v1 m_drawers_full m_drawers_kept y24 hy24) rfl rfl [] rfl rfl rfl rfl rfl cb_9 rfl (fun H locs X => ?_)
    refine x_if_ne 33 30 C dX10_change_27 rfl rfl hf (fun hf => ?_) (fun hf => ?_)
    · refine x_aload_n 34 C dX10_change_33 hl 0 rfl rfl ?_
      refine x_get 37 C dX10_change_34 X kf_X10_12 0 rfl rfl rfl ?_
      refine x_iload_n 38 C dX10_change_37 hl 1 rfl rfl ?_
      refine x_aload_n 39 C dX10_change_38 hl 0 rfl rfl ?_
      refine x_get 42 C dX10_change_39 X kf_X10_83 0 rfl rfl rfl ?_
      obtain ⟨y42, hy42, hf⟩ := kx_bind hf
      refine x_callVv 45 C dX10_change_42 X hl kl_X10_141 (c_X0_load E.2.1 D T (h 1) (h 2) (h 3) (h 4) (h 5) (h 6) (h 49) v1 m_drawers_full m_drawers_kept m_drawers_partA m_drawers_partB m_out_a m_out_b y42 hy42) rfl rfl [] rfl rfl rfl rfl rfl cb_66 rfl (fun H locs X => ?_)
      refine x_iload_n 46 C dX10_change_45 hl 2 rfl rfl ?_
      refine x_if_ne 59 49 C dX10_change_46 rfl rfl hf (fun hf => ?_) (fun hf => ?_)
      · refine x_iload_n 60 C dX10_change_59 hl 2 rfl rfl ?_
        refine x_iconst 61 C dX10_change_60 (1 : Int32) kv_iconst_1 rfl ?_
        refine x_icmp_ne 74 64 C dX10_change_61 rfl rfl hf (fun hf => ?_) (fun hf => ?_)
        · refine x_aload_n 75 C dX10_change_74 hl 0 rfl rfl ?_
          refine x_get 78 C dX10_change_75 X kf_X10_83 0 rfl rfl rfl ?_
          refine x_iload_n 79 C dX10_change_78 hl 2 rfl rfl ?_
          refine x_iconst 80 C dX10_change_79 (2 : Int32) kv_iconst_2 rfl ?_
          refine x_isub 81 C dX10_change_80 rfl ?_
          obtain ⟨y81, hy81, hf⟩ := kx_bind hf
          refine x_callVv 84 C dX10_change_81 X hl kl_X10_215 (c_X5_multiplyByUnit E.2.1 D T (h 49) N (v2 - (2 : Int32)) y42.1 y42.2 y81 hy81) rfl rfl [] rfl rfl rfl rfl rfl cb_64 rfl (fun H locs X => ?_)
          refine x_aload_n 85 C dX10_change_84 hl 0 rfl rfl ?_
          refine x_iload_n 86 C dX10_change_85 hl 1 rfl rfl ?_
          obtain ⟨y86, hy86, hf⟩ := kx_bind hf
          refine x_callVi0 89 C dX10_change_86 X hl kl_X10_183 (c_X10_storeOut E.2.1 D T h v1 m_drawers_full m_drawers_kept m_drawers_partA m_drawers_partB m_drawers_keptA m_drawers_keptB m_drawers_keptFull m_tape_size m_tape_plain m_tape_omegas m_tape_end m_tape_place m_tape_plainTold m_tape_omegasTold m_tape_bytes m_euclid_count m_euclid_last_a m_euclid_last_b m_euclid_lastOfFirst_a m_euclid_lastOfFirst_b m_euclid_lastOfSecond_a m_euclid_lastOfSecond_b m_euclid_next_a m_euclid_next_b m_euclid_nextOfFirst_a m_euclid_nextOfFirst_b m_euclid_nextOfSecond_a m_euclid_nextOfSecond_b m_euclid_q_a m_euclid_q_b m_euclid_quotientA m_euclid_quotientB m_modulus_step m_modulus_width m_modulus_slant m_modulus_square_a m_modulus_square_b m_factors_count m_factors_threes m_factors_unit m_factors_primeA m_factors_primeB m_factors_norms m_factors_euclid_count m_factors_euclid_last_a m_factors_euclid_last_b m_factors_euclid_lastOfFirst_a m_factors_euclid_lastOfFirst_b m_factors_euclid_lastOfSecond_a m_factors_euclid_lastOfSecond_b m_factors_euclid_next_a m_factors_euclid_next_b m_factors_euclid_nextOfFirst_a m_factors_euclid_nextOfFirst_b m_factors_euclid_nextOfSecond_a m_factors_euclid_nextOfSecond_b m_factors_euclid_q_a m_factors_euclid_q_b m_factors_euclid_quotientA m_factors_euclid_quotientB m_factors_left_a m_factors_left_b m_factors_found_a m_factors_found_b m_factors_product_a m_factors_product_b m_primes_count m_primes_primeA m_primes_primeB m_primes_found_a m_primes_found_b m_rings_foundA m_rings_foundB m_rings_all m_rings_mostOfOneRow m_letters_count m_letters_bytes m_one_a m_one_b m_two_a m_two_b m_three_a m_three_b m_four_a m_four_b y81.1 y81.2 m_spare_a m_spare_b m_marks y86 hy86) rfl rfl [] rfl rfl rfl rfl rfl rfl (fun H locs X => ?_)
          obtain rfl := Option.some.inj hf
          exact R _ _ _ _ X dX10_change_89
        refine x_aload_n 65 C dX10_change_64 hl 0 rfl rfl ?_
        refine x_get 68 C dX10_change_65 X kf_X10_83 0 rfl rfl rfl ?_
        obtain ⟨y68, hy68, hf⟩ := kx_bind hf
        refine x_callVv 71 C dX10_change_68 X hl kl_X10_209 (c_X5_makeOwn E.2.1 D T (h 49) N  y42.1 y42.2 y68 hy68) rfl rfl [] rfl rfl rfl rfl rfl cb_64 rfl (fun H locs X => ?_)
        refine x_goto 84 C dX10_change_71 rfl ?_
        refine x_aload_n 85 C dX10_change_84 hl 0 rfl rfl ?_
        refine x_iload_n 86 C dX10_change_85 hl 1 rfl rfl ?_
        obtain ⟨y86, hy86, hf⟩ := kx_bind hf
        refine x_callVi0 89 C dX10_change_86 X hl kl_X10_183 (c_X10_storeOut E.2.1 D T h v1 m_drawers_full m_drawers_kept m_drawers_partA m_drawers_partB m_drawers_keptA m_drawers_keptB m_drawers_keptFull m_tape_size m_tape_plain m_tape_omegas m_tape_end m_tape_place m_tape_plainTold m_tape_omegasTold m_tape_bytes m_euclid_count m_euclid_last_a m_euclid_last_b m_euclid_lastOfFirst_a m_euclid_lastOfFirst_b m_euclid_lastOfSecond_a m_euclid_lastOfSecond_b m_euclid_next_a m_euclid_next_b m_euclid_nextOfFirst_a m_euclid_nextOfFirst_b m_euclid_nextOfSecond_a m_euclid_nextOfSecond_b m_euclid_q_a m_euclid_q_b m_euclid_quotientA m_euclid_quotientB m_modulus_step m_modulus_width m_modulus_slant m_modulus_square_a m_modulus_square_b m_factors_count m_factors_threes m_factors_unit m_factors_primeA m_factors_primeB m_factors_norms m_factors_euclid_count m_factors_euclid_last_a m_factors_euclid_last_b m_factors_euclid_lastOfFirst_a m_factors_euclid_lastOfFirst_b m_factors_euclid_lastOfSecond_a m_factors_euclid_lastOfSecond_b m_factors_euclid_next_a m_factors_euclid_next_b m_factors_euclid_nextOfFirst_a m_factors_euclid_nextOfFirst_b m_factors_euclid_nextOfSecond_a m_factors_euclid_nextOfSecond_b m_factors_euclid_q_a m_factors_euclid_q_b m_factors_euclid_quotientA m_factors_euclid_quotientB m_factors_left_a m_factors_left_b m_factors_found_a m_factors_found_b m_factors_product_a m_factors_product_b m_primes_count m_primes_primeA m_primes_primeB m_primes_found_a m_primes_found_b m_rings_foundA m_rings_foundB m_rings_all m_rings_mostOfOneRow m_letters_count m_letters_bytes m_one_a m_one_b m_two_a m_two_b m_three_a m_three_b m_four_a m_four_b y68.1 y68.2 m_spare_a m_spare_b m_marks y86 hy86) rfl rfl [] rfl rfl rfl rfl rfl rfl (fun H locs X => ?_)
        obtain rfl := Option.some.inj hf
        exact R _ _ _ _ X dX10_change_89
      refine x_aload_n 50 C dX10_change_49 hl 0 rfl rfl ?_
      refine x_get 53 C dX10_change_50 X kf_X10_83 0 rfl rfl rfl ?_
      obtain ⟨y53, hy53, hf⟩ := kx_bind hf
      refine x_callVv 56 C dX10_change_53 X hl kl_X10_212 (c_X5_turn E.2.1 D T (h 49)  y42.1 y42.2 y53 hy53) rfl rfl [] rfl rfl rfl rfl rfl cb_64 rfl (fun H locs X => ?_)
      refine x_goto 84 C dX10_change_56 rfl ?_
      refine x_aload_n 85 C dX10_change_84 hl 0 rfl rfl ?_
      refine x_iload_n 86 C dX10_change_85 hl 1 rfl rfl ?_
      obtain ⟨y86, hy86, hf⟩ := kx_bind hf
      refine x_callVi0 89 C dX10_change_86 X hl kl_X10_183 (c_X10_storeOut E.2.1 D T h v1 m_drawers_full m_drawers_kept m_drawers_partA m_drawers_partB m_drawers_keptA m_drawers_keptB m_drawers_keptFull m_tape_size m_tape_plain m_tape_omegas m_tape_end m_tape_place m_tape_plainTold m_tape_omegasTold m_tape_bytes m_euclid_count m_euclid_last_a m_euclid_last_b m_euclid_lastOfFirst_a m_euclid_lastOfFirst_b m_euclid_lastOfSecond_a m_euclid_lastOfSecond_b m_euclid_next_a m_euclid_next_b m_euclid_nextOfFirst_a m_euclid_nextOfFirst_b m_euclid_nextOfSecond_a m_euclid_nextOfSecond_b m_euclid_q_a m_euclid_q_b m_euclid_quotientA m_euclid_quotientB m_modulus_step m_modulus_width m_modulus_slant m_modulus_square_a m_modulus_square_b m_factors_count m_factors_threes m_factors_unit m_factors_primeA m_factors_primeB m_factors_norms m_factors_euclid_count m_factors_euclid_last_a m_factors_euclid_last_b m_factors_euclid_lastOfFirst_a m_factors_euclid_lastOfFirst_b m_factors_euclid_lastOfSecond_a m_factors_euclid_lastOfSecond_b m_factors_euclid_next_a m_factors_euclid_next_b m_factors_euclid_nextOfFirst_a m_factors_euclid_nextOfFirst_b m_factors_euclid_nextOfSecond_a m_factors_euclid_nextOfSecond_b m_factors_euclid_q_a m_factors_euclid_q_b m_factors_euclid_quotientA m_factors_euclid_quotientB m_factors_left_a m_factors_left_b m_factors_found_a m_factors_found_b m_factors_product_a m_factors_product_b m_primes_count m_primes_primeA m_primes_primeB m_primes_found_a m_primes_found_b m_rings_foundA m_rings_foundB m_rings_all m_rings_mostOfOneRow m_letters_count m_letters_bytes m_one_a m_one_b m_two_a m_two_b m_three_a m_three_b m_four_a m_four_b y53.1 y53.2 m_spare_a m_spare_b m_marks y86 hy86) rfl rfl [] rfl rfl rfl rfl rfl rfl (fun H locs X => ?_)
      obtain rfl := Option.some.inj hf
      exact R _ _ _ _ X dX10_change_89
    refine x_bipush 32 C dX10_change_30 (-2 : Int32) kv_bipush_m2 rfl ?_
    obtain rfl := Option.some.inj hf
    exact R _ _ _ _ X dX10_change_32
  refine x_iconst 18 C dX10_change_17 (-1 : Int32) kv_iconst_m1 rfl ?_
  obtain rfl := Option.some.inj hf
  exact R _ _ _ _ X dX10_change_18
set_option maxHeartbeats 4000000 in
set_option maxRecDepth 100000 in
theorem w_X11_unitTimes_9 {E : KE} {A : Nat → Prop} {D : va_G} {T : KT} (h : Nat → Nat) (C : kx_C E cX11_unitTimes 7 none RX11 2 52 D T) (N : Nat) (x : Int64 × Int64) (m_taped m_states m_threes m_primes m_ones m_unit : Int32) (m_allParts m_allNorms m_allClasses : Int64) (m_odd : Int32) (m_boxWide m_boxHigh m_boxStep : Int64) (m_partingMany : Int32) (m_qa m_qb m_la m_lb m_sa m_sb m_ta m_tb : Int64) (m_listed m_tells m_wanted m_found : Int32) (m_bits : Int64) (m_power2 m_rings m_ringA m_ringB m_seedNow : Int32) (m_tape m_has m_keptHas m_first m_second m_keptFirst m_keptSecond m_pa m_pb m_pNorm m_cubed m_isOpen m_signs m_often m_la0 m_lb0 : Nat → Int32) (R : kx_RV E cX11_unitTimes D A (wM T h m_taped m_states x.1 x.2 m_threes m_primes m_ones m_unit m_allParts m_allNorms m_allClasses m_odd m_boxWide m_boxHigh m_boxStep m_partingMany m_qa m_qb m_la m_lb m_sa m_sb m_ta m_tb m_listed m_tells m_wanted m_found m_bits m_power2 m_rings m_ringA m_ringB m_seedNow m_tape m_has m_keptHas m_first m_second m_keptFirst m_keptSecond m_pa m_pb m_pNorm m_cubed m_isOpen m_signs m_often m_la0 m_lb0)) : ∀ (k : Nat), ∀ (m_ra m_rb : Int64) (v5 v6 : Int32) (H : Heap) (locs : List Loc) (ls : Array Slot), kx_H E D A H locs (wM T h m_taped m_states m_ra m_rb m_threes m_primes m_ones m_unit m_allParts m_allNorms m_allClasses m_odd m_boxWide m_boxHigh m_boxStep m_partingMany m_qa m_qb m_la m_lb m_sa m_sb m_ta m_tb m_listed m_tells m_wanted m_found m_bits m_power2 m_rings m_ringA m_ringB m_seedNow m_tape m_has m_keptHas m_first m_second m_keptFirst m_keptSecond m_pa m_pb m_pNorm m_cubed m_isOpen m_signs m_often m_la0 m_lb0) → lv_has ls 7 [(0, .ref (h 0)), (5, .int v5), (6, .int v6)] → f_X11_unitTimes_9 N k v5 v6 m_ra m_rb = some x → kx_W E H locs 9 ls [] := by
  intro k
  induction k with
  | zero =>
    intro m_ra m_rb v5 v6 H locs ls X hl hf
    cases (show (none : Option (Int64 × Int64)) = some x from hf)
  | succ k ih =>
    intro m_ra m_rb v5 v6 H locs ls X hl hf
    rw [f_X11_unitTimes_9] at hf
    refine x_iload 11 C dX11_unitTimes_9 hl 2 rfl rfl ?_
    refine x_iload 13 C dX11_unitTimes_11 hl 1 rfl rfl ?_
    refine x_icmp_ge 36 16 C dX11_unitTimes_13 rfl rfl hf (fun hf => ?_) (fun hf => ?_)
    · obtain rfl := Option.some.inj hf
      exact R _ _ _ _ X dX11_unitTimes_36
    refine x_aload_n 17 C dX11_unitTimes_16 hl 0 rfl rfl ?_
    refine x_aload_n 18 C dX11_unitTimes_17 hl 0 rfl rfl ?_
    refine x_get 21 C dX11_unitTimes_18 X kf_X11_105 0 rfl rfl rfl ?_
    refine x_aload_n 22 C dX11_unitTimes_21 hl 0 rfl rfl ?_
    refine x_get 25 C dX11_unitTimes_22 X kf_X11_109 0 rfl rfl rfl ?_
    refine x_lconst 26 C dX11_unitTimes_25 (1 : Int64) kv_lconst_1 rfl ?_
    refine x_lconst 27 C dX11_unitTimes_26 (1 : Int64) kv_lconst_1 rfl ?_
    obtain ⟨y27, hy27, hf⟩ := kx_bind hf
    refine x_callVv0 30 C dX11_unitTimes_27 X hl kl_X11_121 (c_X11_times E.2.1 D T h m_ra m_rb (1 : Int64) (1 : Int64) m_taped m_states m_ra m_rb m_threes m_primes m_ones m_unit m_allParts m_allNorms m_allClasses m_odd m_boxWide m_boxHigh m_boxStep m_partingMany m_qa m_qb m_la m_lb m_sa m_sb m_ta m_tb m_listed m_tells m_wanted m_found m_bits m_power2 m_rings m_ringA m_ringB m_seedNow m_tape m_has m_keptHas m_first m_second m_keptFirst m_keptSecond m_pa m_pb m_pNorm m_cubed m_isOpen m_signs m_often m_la0 m_lb0 y27 hy27) rfl rfl [] rfl rfl rfl rfl rfl rfl (fun H locs X => ?_)
    refine x_iinc 33 C dX11_unitTimes_30 (1 : Int32) kv_iconst_1 [(6, .int (v6 + (1 : Int32))), (0, .ref (h 0)), (5, .int v5)] hl 2 rfl rfl rfl rfl (fun ls hl => ?_)
    refine x_goto 9 C dX11_unitTimes_33 rfl ?_
    exact ih y27.1 y27.2 v5 (v6 + (1 : Int32)) _ _ _ X (lv_sub hl [1, 2, 0] rfl) hf
set_option maxHeartbeats 4000000 in
set_option maxRecDepth 100000 in
theorem c_X11_unitTimes (l : Launch) (D : va_G) (T : KT) (h : Nat → Nat) (N : Nat) (v1 v3 : Int64) (v5 : Int32) (m_taped m_states : Int32) (m_ra m_rb : Int64) (m_threes m_primes m_ones m_unit : Int32) (m_allParts m_allNorms m_allClasses : Int64) (m_odd : Int32) (m_boxWide m_boxHigh m_boxStep : Int64) (m_partingMany : Int32) (m_qa m_qb m_la m_lb m_sa m_sb m_ta m_tb : Int64) (m_listed m_tells m_wanted m_found : Int32) (m_bits : Int64) (m_power2 m_rings m_ringA m_ringB m_seedNow : Int32) (m_tape m_has m_keptHas m_first m_second m_keptFirst m_keptSecond m_pa m_pb m_pNorm m_cubed m_isOpen m_signs m_often m_la0 m_lb0 : Nat → Int32) (x : Int64 × Int64) (hf : f_X11_unitTimes N v1 v3 v5 = some x) : kx_MV l yX11_unitTimes cX11_unitTimes 7 none 2 52 D T [.ref (h 0), .long v1, .long v3, .int v5] (wM T h m_taped m_states m_ra m_rb m_threes m_primes m_ones m_unit m_allParts m_allNorms m_allClasses m_odd m_boxWide m_boxHigh m_boxStep m_partingMany m_qa m_qb m_la m_lb m_sa m_sb m_ta m_tb m_listed m_tells m_wanted m_found m_bits m_power2 m_rings m_ringA m_ringB m_seedNow m_tape m_has m_keptHas m_first m_second m_keptFirst m_keptSecond m_pa m_pb m_pNorm m_cubed m_isOpen m_signs m_often m_la0 m_lb0) (wM T h m_taped m_states x.1 x.2 m_threes m_primes m_ones m_unit m_allParts m_allNorms m_allClasses m_odd m_boxWide m_boxHigh m_boxStep m_partingMany m_qa m_qb m_la m_lb m_sa m_sb m_ta m_tb m_listed m_tells m_wanted m_found m_bits m_power2 m_rings m_ringA m_ringB m_seedNow m_tape m_has m_keptHas m_first m_second m_keptFirst m_keptSecond m_pa m_pb m_pNorm m_cubed m_isOpen m_signs m_often m_la0 m_lb0) := by
  refine kx_ofMV RX11 rfl (plainFor_of_name (x := yX11_unitTimes) kpn_X11) rfl ?_
  intro E A H ls _ C X R hl
  have hl : lv_has ls 7 [(0, .ref (h 0)), (1, .long v1), (3, .long v3), (5, .int v5)] := hl
  rw [f_X11_unitTimes] at hf
  refine x_aload_n 1 C dX11_unitTimes_0 hl 0 rfl rfl ?_
  refine x_lload_n 2 C dX11_unitTimes_1 hl 1 rfl rfl ?_
  refine x_lload_n 3 C dX11_unitTimes_2 hl 2 rfl rfl ?_
  obtain ⟨y3, hy3, hf⟩ := kx_bind hf
  refine x_callVv0 6 C dX11_unitTimes_3 X hl kl_X11_115 (c_X11_sets E.2.1 D T h v1 v3 m_taped m_states m_ra m_rb m_threes m_primes m_ones m_unit m_allParts m_allNorms m_allClasses m_odd m_boxWide m_boxHigh m_boxStep m_partingMany m_qa m_qb m_la m_lb m_sa m_sb m_ta m_tb m_listed m_tells m_wanted m_found m_bits m_power2 m_rings m_ringA m_ringB m_seedNow m_tape m_has m_keptHas m_first m_second m_keptFirst m_keptSecond m_pa m_pb m_pNorm m_cubed m_isOpen m_signs m_often m_la0 m_lb0 y3 hy3) rfl rfl [] rfl rfl rfl rfl rfl rfl (fun H locs X => ?_)
  refine x_iconst 7 C dX11_unitTimes_6 (0 : Int32) kv_iconst_0 rfl ?_
  refine x_istore 9 C dX11_unitTimes_7 [(6, .int (0 : Int32)), (0, .ref (h 0)), (1, .long v1), (3, .long v3), (5, .int v5)] hl rfl rfl rfl (fun ls hl => ?_)
  exact w_X11_unitTimes_9 h C N x m_taped m_states m_threes m_primes m_ones m_unit m_allParts m_allNorms m_allClasses m_odd m_boxWide m_boxHigh m_boxStep m_partingMany m_qa m_qb m_la m_lb m_sa m_sb m_ta m_tb m_listed m_tells m_wanted m_found m_bits m_power2 m_rings m_ringA m_ringB m_seedNow m_tape m_has m_keptHas m_first m_second m_keptFirst m_keptSecond m_pa m_pb m_pNorm m_cubed m_isOpen m_signs m_often m_la0 m_lb0 R  N y3.1 y3.2 v5 (0 : Int32) _ _ _ X (lv_sub hl [1, 4, 0] rfl) hf
set_option maxHeartbeats 4000000 in
set_option maxRecDepth 100000 in
theorem c_X11_change (l : Launch) (D : va_G) (T : KT) (h : Nat → Nat) (N : Nat) (v1 v2 : Int32) (m_taped m_states : Int32) (m_ra m_rb : Int64) (m_threes m_primes m_ones m_unit : Int32) (m_allParts m_allNorms m_allClasses : Int64) (m_odd : Int32) (m_boxWide m_boxHigh m_boxStep : Int64) (m_partingMany : Int32) (m_qa m_qb m_la m_lb m_sa m_sb m_ta m_tb : Int64) (m_listed m_tells m_wanted m_found : Int32) (m_bits : Int64) (m_power2 m_rings m_ringA m_ringB m_seedNow : Int32) (m_tape m_has m_keptHas m_first m_second m_keptFirst m_keptSecond m_pa m_pb m_pNorm m_cubed m_isOpen m_signs m_often m_la0 m_lb0 : Nat → Int32) (x : Int32 × Int64 × Int64 × Int32 × (Nat → Int32) × (Nat → Int32) × (Nat → Int32)) (hf : f_X11_change N v1 v2 m_ra m_rb m_threes m_has m_first m_second = some x) : kx_MI l yX11_change cX11_change 5 (some .int) 5 120 D T [.ref (h 0), .int v1, .int v2] (wM T h m_taped m_states m_ra m_rb m_threes m_primes m_ones m_unit m_allParts m_allNorms m_allClasses m_odd m_boxWide m_boxHigh m_boxStep m_partingMany m_qa m_qb m_la m_lb m_sa m_sb m_ta m_tb m_listed m_tells m_wanted m_found m_bits m_power2 m_rings m_ringA m_ringB m_seedNow m_tape m_has m_keptHas m_first m_second m_keptFirst m_keptSecond m_pa m_pb m_pNorm m_cubed m_isOpen m_signs m_often m_la0 m_lb0) (wM T h m_taped m_states x.2.1 x.2.2.1 x.2.2.2.1 m_primes m_ones m_unit m_allParts m_allNorms m_allClasses m_odd m_boxWide m_boxHigh m_boxStep m_partingMany m_qa m_qb m_la m_lb m_sa m_sb m_ta m_tb m_listed m_tells m_wanted m_found m_bits m_power2 m_rings m_ringA m_ringB m_seedNow m_tape x.2.2.2.2.1 m_keptHas x.2.2.2.2.2.1 x.2.2.2.2.2.2 m_keptFirst m_keptSecond m_pa m_pb m_pNorm m_cubed m_isOpen m_signs m_often m_la0 m_lb0) x.1 := by
  refine kx_ofMI RX11 rfl (plainFor_of_name (x := yX11_change) kpn_X11) rfl ?_
  intro E A H ls _ C X R hl
  have hl : lv_has ls 5 [(0, .ref (h 0)), (1, .int v1), (2, .int v2)] := hl
  rw [f_X11_change] at hf
  refine x_iload_n 1 C dX11_change_0 hl 1 rfl rfl ?_
  obtain ⟨y1, hy1, hf⟩ := kx_bind hf
  refine x_callSi 4 C dX11_change_1 X hl kl_X11_85 (c_X11_isDrawer E.2.1 D T  v1  y1 hy1) [] rfl rfl rfl rfl rfl cb_7 rfl (fun H locs X => ?_)
  refine x_if_eq 19 7 C dX11_change_4 rfl rfl hf (fun hf => ?_) (fun hf => ?_)
  · refine x_iconst 20 C dX11_change_19 (-1 : Int32) kv_iconst_m1 rfl ?_
    obtain rfl := Option.some.inj hf
    exact R _ _ _ _ X dX11_change_20
  refine x_iload_n 8 C dX11_change_7 hl 2 rfl rfl ?_
  refine x_i2l 9 C dX11_change_8 rfl ?_
  refine x_lconst 10 C dX11_change_9 (0 : Int64) kv_lconst_0 rfl ?_
  refine x_ldc2_w 13 C dX11_change_10 (7 : Int64) kc_X11_75 rfl ?_
  obtain ⟨y13, hy13, hf⟩ := kx_bind hf
  refine x_callSi 16 C dX11_change_13 X hl kl_X11_77 (c_X11_in E.2.1 D T  (v2).toInt64 (0 : Int64) (7 : Int64)  y13 hy13) [] rfl rfl rfl rfl rfl cb_7 rfl (fun H locs X => ?_)
  refine x_if_ne 21 19 C dX11_change_16 rfl rfl hf (fun hf => ?_) (fun hf => ?_)
  · refine x_aload_n 22 C dX11_change_21 hl 0 rfl rfl ?_
    refine x_get 25 C dX11_change_22 X kf_X11_13 0 rfl rfl rfl ?_
    refine x_iload_n 26 C dX11_change_25 hl 1 rfl rfl ?_
    refine x_zald 27 C dX11_change_26 X 2 rfl hf rfl (fun hf => ?_)
    refine x_if_ne 33 30 C dX11_change_27 rfl rfl hf (fun hf => ?_) (fun hf => ?_)
    · refine x_aload_n 34 C dX11_change_33 hl 0 rfl rfl ?_
      refine x_get 37 C dX11_change_34 X kf_X11_20 0 rfl rfl rfl ?_
      refine x_iload_n 38 C dX11_change_37 hl 1 rfl rfl ?_
      refine x_iald 39 C dX11_change_38 X 4 rfl hf rfl (fun hf => ?_)
      refine x_istore_n 40 C dX11_change_39 [(3, .int (m_first (v1).toNatClampNeg)), (0, .ref (h 0)), (1, .int v1), (2, .int v2)] hl rfl rfl rfl (fun ls hl => ?_)
      refine x_aload_n 41 C dX11_change_40 hl 1 rfl rfl ?_
      refine x_get 44 C dX11_change_41 X kf_X11_24 0 rfl rfl rfl ?_
      refine x_iload_n 45 C dX11_change_44 hl 2 rfl rfl ?_
      refine x_iald 46 C dX11_change_45 X 5 rfl hf rfl (fun hf => ?_)
      refine x_istore 48 C dX11_change_46 [(4, .int (m_second (v1).toNatClampNeg)), (3, .int (m_first (v1).toNatClampNeg)), (0, .ref (h 0)), (1, .int v1), (2, .int v2)] hl rfl rfl rfl (fun ls hl => ?_)
      refine x_iload_n 49 C dX11_change_48 hl 4 rfl rfl ?_
      refine x_if_ne 68 52 C dX11_change_49 rfl rfl hf (fun hf => ?_) (fun hf => ?_)
      · refine x_iload_n 69 C dX11_change_68 hl 4 rfl rfl ?_
        refine x_iconst 70 C dX11_change_69 (1 : Int32) kv_iconst_1 rfl ?_
        refine x_icmp_ne 85 73 C dX11_change_70 rfl rfl hf (fun hf => ?_) (fun hf => ?_)
        · refine x_aload_n 86 C dX11_change_85 hl 2 rfl rfl ?_
          refine x_iload_n 87 C dX11_change_86 hl 1 rfl rfl ?_
          refine x_i2l 88 C dX11_change_87 rfl ?_
          refine x_iload 90 C dX11_change_88 hl 0 rfl rfl ?_
          refine x_i2l 91 C dX11_change_90 rfl ?_
          refine x_iload_n 92 C dX11_change_91 hl 4 rfl rfl ?_
          refine x_iconst 93 C dX11_change_92 (2 : Int32) kv_iconst_2 rfl ?_
          refine x_isub 94 C dX11_change_93 rfl ?_
          obtain ⟨y94, hy94, hf⟩ := kx_bind hf
          refine x_callVv0 97 C dX11_change_94 X hl kl_X11_187 (c_X11_unitTimes E.2.1 D T h N ((m_first (v1).toNatClampNeg)).toInt64 ((m_second (v1).toNatClampNeg)).toInt64 (v2 - (2 : Int32)) m_taped m_states m_ra m_rb m_threes m_primes m_ones m_unit m_allParts m_allNorms m_allClasses m_odd m_boxWide m_boxHigh m_boxStep m_partingMany m_qa m_qb m_la m_lb m_sa m_sb m_ta m_tb m_listed m_tells m_wanted m_found m_bits m_power2 m_rings m_ringA m_ringB m_seedNow m_tape m_has m_keptHas m_first m_second m_keptFirst m_keptSecond m_pa m_pb m_pNorm m_cubed m_isOpen m_signs m_often m_la0 m_lb0 y94 hy94) rfl rfl [] rfl rfl rfl rfl rfl rfl (fun H locs X => ?_)
          refine x_aload_n 98 C dX11_change_97 hl 2 rfl rfl ?_
          refine x_iload_n 99 C dX11_change_98 hl 3 rfl rfl ?_
          obtain ⟨y99, hy99, hf⟩ := kx_bind hf
          refine x_callVi0 102 C dX11_change_99 X hl kl_X11_184 (c_X11_takes E.2.1 D T h v1 m_taped m_states y94.1 y94.2 m_threes m_primes m_ones m_unit m_allParts m_allNorms m_allClasses m_odd m_boxWide m_boxHigh m_boxStep m_partingMany m_qa m_qb m_la m_lb m_sa m_sb m_ta m_tb m_listed m_tells m_wanted m_found m_bits m_power2 m_rings m_ringA m_ringB m_seedNow m_tape m_has m_keptHas m_first m_second m_keptFirst m_keptSecond m_pa m_pb m_pNorm m_cubed m_isOpen m_signs m_often m_la0 m_lb0 y99 hy99) rfl rfl [] rfl rfl rfl rfl rfl rfl (fun H locs X => ?_)
          obtain rfl := Option.some.inj hf
          exact R _ _ _ _ X dX11_change_102
        refine x_aload_n 74 C dX11_change_73 hl 2 rfl rfl ?_
        refine x_iload_n 75 C dX11_change_74 hl 1 rfl rfl ?_
        refine x_i2l 76 C dX11_change_75 rfl ?_
        refine x_iload 78 C dX11_change_76 hl 0 rfl rfl ?_
        refine x_i2l 79 C dX11_change_78 rfl ?_
        obtain ⟨y79, hy79, hf⟩ := kx_bind hf
        refine x_callVv0 82 C dX11_change_79 X hl kl_X11_181 (c_X11_owns E.2.1 D T h N ((m_first (v1).toNatClampNeg)).toInt64 ((m_second (v1).toNatClampNeg)).toInt64 m_taped m_states m_ra m_rb m_threes m_primes m_ones m_unit m_allParts m_allNorms m_allClasses m_odd m_boxWide m_boxHigh m_boxStep m_partingMany m_qa m_qb m_la m_lb m_sa m_sb m_ta m_tb m_listed m_tells m_wanted m_found m_bits m_power2 m_rings m_ringA m_ringB m_seedNow m_tape m_has m_keptHas m_first m_second m_keptFirst m_keptSecond m_pa m_pb m_pNorm m_cubed m_isOpen m_signs m_often m_la0 m_lb0 y79 hy79) rfl rfl [] rfl rfl rfl rfl rfl rfl (fun H locs X => ?_)
        refine x_goto 97 C dX11_change_82 rfl ?_
        refine x_aload_n 98 C dX11_change_97 hl 2 rfl rfl ?_
        refine x_iload_n 99 C dX11_change_98 hl 3 rfl rfl ?_
        obtain ⟨y99, hy99, hf⟩ := kx_bind hf
        refine x_callVi0 102 C dX11_change_99 X hl kl_X11_184 (c_X11_takes E.2.1 D T h v1 m_taped m_states y79.1 y79.2.1 y79.2.2 m_primes m_ones m_unit m_allParts m_allNorms m_allClasses m_odd m_boxWide m_boxHigh m_boxStep m_partingMany m_qa m_qb m_la m_lb m_sa m_sb m_ta m_tb m_listed m_tells m_wanted m_found m_bits m_power2 m_rings m_ringA m_ringB m_seedNow m_tape m_has m_keptHas m_first m_second m_keptFirst m_keptSecond m_pa m_pb m_pNorm m_cubed m_isOpen m_signs m_often m_la0 m_lb0 y99 hy99) rfl rfl [] rfl rfl rfl rfl rfl rfl (fun H locs X => ?_)
        obtain rfl := Option.some.inj hf
        exact R _ _ _ _ X dX11_change_102
      refine x_aload_n 53 C dX11_change_52 hl 2 rfl rfl ?_
      refine x_iload_n 54 C dX11_change_53 hl 1 rfl rfl ?_
      refine x_iload 56 C dX11_change_54 hl 0 rfl rfl ?_
      refine x_isub 57 C dX11_change_56 rfl ?_
      refine x_i2l 58 C dX11_change_57 rfl ?_
      refine x_iload 60 C dX11_change_58 hl 0 rfl rfl ?_
      refine x_ineg 61 C dX11_change_60 rfl ?_
      refine x_i2l 62 C dX11_change_61 rfl ?_
      obtain ⟨y62, hy62, hf⟩ := kx_bind hf
      refine x_callVv0 65 C dX11_change_62 X hl kl_X11_115 (c_X11_sets E.2.1 D T h (((m_first (v1).toNatClampNeg) - (m_second (v1).toNatClampNeg))).toInt64 ((-(m_second (v1).toNatClampNeg))).toInt64 m_taped m_states m_ra m_rb m_threes m_primes m_ones m_unit m_allParts m_allNorms m_allClasses m_odd m_boxWide m_boxHigh m_boxStep m_partingMany m_qa m_qb m_la m_lb m_sa m_sb m_ta m_tb m_listed m_tells m_wanted m_found m_bits m_power2 m_rings m_ringA m_ringB m_seedNow m_tape m_has m_keptHas m_first m_second m_keptFirst m_keptSecond m_pa m_pb m_pNorm m_cubed m_isOpen m_signs m_often m_la0 m_lb0 y62 hy62) rfl rfl [] rfl rfl rfl rfl rfl rfl (fun H locs X => ?_)
      refine x_goto 97 C dX11_change_65 rfl ?_
      refine x_aload_n 98 C dX11_change_97 hl 2 rfl rfl ?_
      refine x_iload_n 99 C dX11_change_98 hl 3 rfl rfl ?_
      obtain ⟨y99, hy99, hf⟩ := kx_bind hf
      refine x_callVi0 102 C dX11_change_99 X hl kl_X11_184 (c_X11_takes E.2.1 D T h v1 m_taped m_states y62.1 y62.2 m_threes m_primes m_ones m_unit m_allParts m_allNorms m_allClasses m_odd m_boxWide m_boxHigh m_boxStep m_partingMany m_qa m_qb m_la m_lb m_sa m_sb m_ta m_tb m_listed m_tells m_wanted m_found m_bits m_power2 m_rings m_ringA m_ringB m_seedNow m_tape m_has m_keptHas m_first m_second m_keptFirst m_keptSecond m_pa m_pb m_pNorm m_cubed m_isOpen m_signs m_often m_la0 m_lb0 y99 hy99) rfl rfl [] rfl rfl rfl rfl rfl rfl (fun H locs X => ?_)
      obtain rfl := Option.some.inj hf
      exact R _ _ _ _ X dX11_change_102
    refine x_bipush 32 C dX11_change_30 (-2 : Int32) kv_bipush_m2 rfl ?_
    obtain rfl := Option.some.inj hf
    exact R _ _ _ _ X dX11_change_32
  refine x_iconst 20 C dX11_change_19 (-1 : Int32) kv_iconst_m1 rfl ?_
  obtain rfl := Option.some.inj hf
  exact R _ _ _ _ X dX11_change_20
set_option maxHeartbeats 4000000 in
set_option maxRecDepth 100000 in
theorem c_X5_isDividedBy (l : Launch) (D : va_G) (T : KT) (h0 h1 : Nat)  (m_a m_b m_p1_a m_p1_b : Int64) (x : Int32) (hf : f_X5_isDividedBy m_a m_b m_p1_a m_p1_b = some x) : kx_MI l yX5_isDividedBy cX5_isDividedBy 4 (some .boolean) 1 20 D T [.ref h0, .ref h1] (w12_X5 T h0 h1 m_a m_b m_p1_a m_p1_b) (w12_X5 T h0 h1 m_a m_b m_p1_a m_p1_b) x := by
  refine kx_ofMZ RX5 rfl (plainFor_of_name (x := yX5_isDividedBy) kpn_X5) rfl ?_
  intro E A H ls _ C X R hl
  have hl : lv_has ls 4 [(0, .ref h0), (1, .ref h1)] := hl
  rw [f_X5_isDividedBy] at hf
  refine x_aload_n 1 C dX5_isDividedBy_0 hl 1 rfl rfl ?_
  obtain ⟨y1, hy1, hf⟩ := kx_bind hf
  refine x_callVl 4 C dX5_isDividedBy_1 X hl kl_X5_22 (c_X5_norm E.2.1 D T h1  m_p1_a m_p1_b y1 hy1) rfl rfl [] rfl rfl rfl rfl rfl cb_70 rfl (fun H locs X => ?_)
  refine x_lstore_n 5 C dX5_isDividedBy_4 [(2, .long y1), (0, .ref h0), (1, .ref h1)] hl rfl rfl rfl (fun ls hl => ?_)
  refine x_lload_n 6 C dX5_isDividedBy_5 hl 0 rfl rfl ?_
  refine x_lconst 7 C dX5_isDividedBy_6 (1 : Int64) kv_lconst_1 rfl ?_
  refine x_lcmp_ge 16 8 11 C dX5_isDividedBy_7 dX5_isDividedBy_8 rfl rfl rfl hf (fun hf => ?_) (fun hf => ?_)
  · refine x_aload_n 17 C dX5_isDividedBy_16 hl 1 rfl rfl ?_
    refine x_get 20 C dX5_isDividedBy_17 X kf_X5_9 0 rfl rfl rfl ?_
    refine x_aload_n 21 C dX5_isDividedBy_20 hl 2 rfl rfl ?_
    refine x_get 24 C dX5_isDividedBy_21 X kf_X5_9 1 rfl rfl rfl ?_
    refine x_aload_n 25 C dX5_isDividedBy_24 hl 2 rfl rfl ?_
    refine x_get 28 C dX5_isDividedBy_25 X kf_X5_15 1 rfl rfl rfl ?_
    refine x_lsub 29 C dX5_isDividedBy_28 rfl ?_
    refine x_lmul 30 C dX5_isDividedBy_29 rfl ?_
    refine x_aload_n 31 C dX5_isDividedBy_30 hl 1 rfl rfl ?_
    refine x_get 34 C dX5_isDividedBy_31 X kf_X5_15 0 rfl rfl rfl ?_
    refine x_aload_n 35 C dX5_isDividedBy_34 hl 2 rfl rfl ?_
    refine x_get 38 C dX5_isDividedBy_35 X kf_X5_15 1 rfl rfl rfl ?_
    refine x_lmul 39 C dX5_isDividedBy_38 rfl ?_
    refine x_ladd 40 C dX5_isDividedBy_39 rfl ?_
    refine x_lload_n 41 C dX5_isDividedBy_40 hl 0 rfl rfl ?_
    refine x_lrem 42 C dX5_isDividedBy_41 hf rfl (fun hf => ?_)
    refine x_lconst 43 C dX5_isDividedBy_42 (0 : Int64) kv_lconst_0 rfl ?_
    refine x_lcmp_ne 77 44 47 C dX5_isDividedBy_43 dX5_isDividedBy_44 rfl rfl rfl hf (fun hf => ?_) (fun hf => ?_)
    · refine x_iconst 78 C dX5_isDividedBy_77 (0 : Int32) kv_iconst_0 rfl ?_
      obtain rfl := Option.some.inj hf
      exact R _ _ _ _ X kb_0 dX5_isDividedBy_78
    refine x_aload_n 48 C dX5_isDividedBy_47 hl 1 rfl rfl ?_
    refine x_get 51 C dX5_isDividedBy_48 X kf_X5_15 0 rfl rfl rfl ?_
    refine x_aload_n 52 C dX5_isDividedBy_51 hl 2 rfl rfl ?_
    refine x_get 55 C dX5_isDividedBy_52 X kf_X5_9 1 rfl rfl rfl ?_
    refine x_lmul 56 C dX5_isDividedBy_55 rfl ?_
    refine x_aload_n 57 C dX5_isDividedBy_56 hl 1 rfl rfl ?_
    refine x_get 60 C dX5_isDividedBy_57 X kf_X5_9 0 rfl rfl rfl ?_
    refine x_aload_n 61 C dX5_isDividedBy_60 hl 2 rfl rfl ?_
    refine x_get 64 C dX5_isDividedBy_61 X kf_X5_15 1 rfl rfl rfl ?_
    refine x_lmul 65 C dX5_isDividedBy_64 rfl ?_
    refine x_lsub 66 C dX5_isDividedBy_65 rfl ?_
    refine x_lload_n 67 C dX5_isDividedBy_66 hl 0 rfl rfl ?_
    refine x_lrem 68 C dX5_isDividedBy_67 hf rfl (fun hf => ?_)
    refine x_lconst 69 C dX5_isDividedBy_68 (0 : Int64) kv_lconst_0 rfl ?_
    refine x_lcmp_ne 77 70 73 C dX5_isDividedBy_69 dX5_isDividedBy_70 rfl rfl rfl hf (fun hf => ?_) (fun hf => ?_)
    · refine x_iconst 78 C dX5_isDividedBy_77 (0 : Int32) kv_iconst_0 rfl ?_
      obtain rfl := Option.some.inj hf
      exact R _ _ _ _ X kb_0 dX5_isDividedBy_78
    refine x_iconst 74 C dX5_isDividedBy_73 (1 : Int32) kv_iconst_1 rfl ?_
    refine x_goto 78 C dX5_isDividedBy_74 rfl ?_
    obtain rfl := Option.some.inj hf
    exact R _ _ _ _ X kb_1 dX5_isDividedBy_78
  refine x_aload_n 12 C dX5_isDividedBy_11 hl 1 rfl rfl ?_
  obtain ⟨y12, hy12, hf⟩ := kx_bind hf
  refine x_callVi 15 C dX5_isDividedBy_12 X hl kl_X5_40 (c_X5_isNought E.2.1 D T h0  m_a m_b y12 hy12) rfl rfl [] rfl rfl rfl rfl rfl cb_69 rfl (fun H locs X => ?_)
  refine kx_sw hf (fun hz hf => ?_) (fun _ hf => by cases hf)
  obtain rfl := Option.some.inj hf
  exact R _ _ _ _ X hz dX5_isDividedBy_15
set_option maxHeartbeats 4000000 in
set_option maxRecDepth 100000 in
theorem c_X5_isAlike (l : Launch) (D : va_G) (T : KT) (h0 h1 : Nat)  (m_a m_b m_p1_a m_p1_b : Int64) (x : Int32) (hf : f_X5_isAlike m_a m_b m_p1_a m_p1_b = some x) : kx_MI l yX5_isAlike cX5_isAlike 2 (some .boolean) 2 43 D T [.ref h0, .ref h1] (w12_X5 T h0 h1 m_a m_b m_p1_a m_p1_b) (w12_X5 T h0 h1 m_a m_b m_p1_a m_p1_b) x := by
  refine kx_ofMZ RX5 rfl (plainFor_of_name (x := yX5_isAlike) kpn_X5) rfl ?_
  intro E A H ls _ C X R hl
  have hl : lv_has ls 2 [(0, .ref h0), (1, .ref h1)] := hl
  rw [f_X5_isAlike] at hf
  refine x_aload_n 1 C dX5_isAlike_0 hl 0 rfl rfl ?_
  obtain ⟨y1, hy1, hf⟩ := kx_bind hf
  refine x_callVl 4 C dX5_isAlike_1 X hl kl_X5_22 (c_X5_norm E.2.1 D T h0  m_a m_b y1 hy1) rfl rfl [] rfl rfl rfl rfl rfl cb_69 rfl (fun H locs X => ?_)
  refine x_aload_n 5 C dX5_isAlike_4 hl 1 rfl rfl ?_
  obtain ⟨y5, hy5, hf⟩ := kx_bind hf
  refine x_callVl 8 C dX5_isAlike_5 X hl kl_X5_22 (c_X5_norm E.2.1 D T h1  m_p1_a m_p1_b y5 hy5) rfl rfl [.long y1] rfl rfl rfl rfl rfl cb_70 rfl (fun H locs X => ?_)
  refine x_lcmp_ne 24 9 12 C dX5_isAlike_8 dX5_isAlike_9 rfl rfl rfl hf (fun hf => ?_) (fun hf => ?_)
  · refine x_iconst 25 C dX5_isAlike_24 (0 : Int32) kv_iconst_0 rfl ?_
    obtain rfl := Option.some.inj hf
    exact R _ _ _ _ X kb_0 dX5_isAlike_25
  refine x_aload_n 13 C dX5_isAlike_12 hl 0 rfl rfl ?_
  refine x_aload_n 14 C dX5_isAlike_13 hl 1 rfl rfl ?_
  obtain ⟨y14, hy14, hf⟩ := kx_bind hf
  refine x_callVi0 17 C dX5_isAlike_14 X hl kl_X5_36 (c_X5_isDividedBy E.2.1 D T h0 h1  m_a m_b m_p1_a m_p1_b y14 hy14) rfl rfl [] rfl rfl rfl rfl rfl rfl (fun H locs X => ?_)
  refine x_if_eq 24 20 C dX5_isAlike_17 rfl rfl hf (fun hf => ?_) (fun hf => ?_)
  · refine x_iconst 25 C dX5_isAlike_24 (0 : Int32) kv_iconst_0 rfl ?_
    obtain rfl := Option.some.inj hf
    exact R _ _ _ _ X kb_0 dX5_isAlike_25
  refine x_iconst 21 C dX5_isAlike_20 (1 : Int32) kv_iconst_1 rfl ?_
  refine x_goto 25 C dX5_isAlike_21 rfl ?_
  obtain rfl := Option.some.inj hf
  exact R _ _ _ _ X kb_1 dX5_isAlike_25
set_option maxHeartbeats 4000000 in
set_option maxRecDepth 100000 in
theorem c_X1_arePrimeToEachOther (l : Launch) (D : va_G) (T : KT) (h0 h1 h2 h3 h4 h5 h6 h7 h8 h9 h10 h11 : Nat) (N : Nat)  (m_count : Int32) (m_last_a m_last_b m_lastOfFirst_a m_lastOfFirst_b m_lastOfSecond_a m_lastOfSecond_b m_next_a m_next_b m_nextOfFirst_a m_nextOfFirst_b m_nextOfSecond_a m_nextOfSecond_b m_q_a m_q_b : Int64) (m_quotientA m_quotientB : Nat → Int64) (m_p1_a m_p1_b m_p2_a m_p2_b : Int64) (x : Int32 × Int32 × Int64 × Int64 × Int64 × Int64 × Int64 × Int64 × Int64 × Int64 × Int64 × Int64 × Int64 × Int64 × Int64 × Int64 × (Nat → Int64) × (Nat → Int64)) (hf : f_X1_arePrimeToEachOther N m_q_a m_q_b m_quotientA m_quotientB m_p1_a m_p1_b m_p2_a m_p2_b = some x) : kx_MI l yX1_arePrimeToEachOther cX1_arePrimeToEachOther 3 (some .boolean) 3 76 D T [.ref h0, .ref h10, .ref h11] (w15_X1 T h0 h1 h2 h3 h4 h5 h6 h7 h8 h9 h10 h11 m_count m_last_a m_last_b m_lastOfFirst_a m_lastOfFirst_b m_lastOfSecond_a m_lastOfSecond_b m_next_a m_next_b m_nextOfFirst_a m_nextOfFirst_b m_nextOfSecond_a m_nextOfSecond_b m_q_a m_q_b m_quotientA m_quotientB m_p1_a m_p1_b m_p2_a m_p2_b) (w15_X1 T h0 h1 h2 h3 h4 h5 h6 h7 h8 h9 h10 h11 x.2.1 x.2.2.1 x.2.2.2.1 x.2.2.2.2.1 x.2.2.2.2.2.1 x.2.2.2.2.2.2.1 x.2.2.2.2.2.2.2.1 x.2.2.2.2.2.2.2.2.1 x.2.2.2.2.2.2.2.2.2.1 x.2.2.2.2.2.2.2.2.2.2.1 x.2.2.2.2.2.2.2.2.2.2.2.1 x.2.2.2.2.2.2.2.2.2.2.2.2.1 x.2.2.2.2.2.2.2.2.2.2.2.2.2.1 x.2.2.2.2.2.2.2.2.2.2.2.2.2.2.1 x.2.2.2.2.2.2.2.2.2.2.2.2.2.2.2.1 x.2.2.2.2.2.2.2.2.2.2.2.2.2.2.2.2.1 x.2.2.2.2.2.2.2.2.2.2.2.2.2.2.2.2.2 m_p1_a m_p1_b m_p2_a m_p2_b) x.1 := by
  refine kx_ofMZ RX1 rfl (plainFor_of_name (x := yX1_arePrimeToEachOther) kpn_X1) rfl ?_
  intro E A H ls _ C X R hl
  have hl : lv_has ls 3 [(0, .ref h0), (1, .ref h10), (2, .ref h11)] := hl
  rw [f_X1_arePrimeToEachOther] at hf
  refine x_aload_n 1 C dX1_arePrimeToEachOther_0 hl 0 rfl rfl ?_
  refine x_aload_n 2 C dX1_arePrimeToEachOther_1 hl 1 rfl rfl ?_
  refine x_aload_n 3 C dX1_arePrimeToEachOther_2 hl 2 rfl rfl ?_
  obtain ⟨y3, hy3, hf⟩ := kx_bind hf
  refine x_callVv0 6 C dX1_arePrimeToEachOther_3 X hl kl_X1_71 (c_X1_part E.2.1 D T h0 h1 h2 h3 h4 h5 h6 h7 h8 h9 h10 h11 N  m_count m_last_a m_last_b m_lastOfFirst_a m_lastOfFirst_b m_lastOfSecond_a m_lastOfSecond_b m_next_a m_next_b m_nextOfFirst_a m_nextOfFirst_b m_nextOfSecond_a m_nextOfSecond_b m_q_a m_q_b m_quotientA m_quotientB m_p1_a m_p1_b m_p2_a m_p2_b y3 hy3) rfl rfl [] rfl rfl rfl rfl rfl rfl (fun H locs X => ?_)
  refine x_aload_n 7 C dX1_arePrimeToEachOther_6 hl 0 rfl rfl ?_
  refine x_get 10 C dX1_arePrimeToEachOther_7 X kf_X1_10 0 rfl rfl rfl ?_
  obtain ⟨y10, hy10, hf⟩ := kx_bind hf
  refine x_callVi 13 C dX1_arePrimeToEachOther_10 X hl kl_X1_74 (c_X5_isUnit E.2.1 D T h1  y3.2.1 y3.2.2.1 y10 hy10) rfl rfl [] rfl rfl rfl rfl rfl cb_71 rfl (fun H locs X => ?_)
  refine kx_sw hf (fun hz hf => ?_) (fun _ hf => by cases hf)
  obtain rfl := Option.some.inj hf
  exact R _ _ _ _ X hz dX1_arePrimeToEachOther_13
set_option maxHeartbeats 4000000 in
set_option maxRecDepth 100000 in
theorem c_X10_are (l : Launch) (D : va_G) (T : KT) (h : Nat → Nat) (N : Nat) (v1 v2 v3 : Int32) (m_drawers_full m_drawers_kept : Int32) (m_drawers_partA m_drawers_partB m_drawers_keptA m_drawers_keptB m_drawers_keptFull : Nat → Int32) (m_tape_size m_tape_plain m_tape_omegas m_tape_end m_tape_place m_tape_plainTold m_tape_omegasTold : Int32) (m_tape_bytes : Nat → Int32) (m_euclid_count : Int32) (m_euclid_last_a m_euclid_last_b m_euclid_lastOfFirst_a m_euclid_lastOfFirst_b m_euclid_lastOfSecond_a m_euclid_lastOfSecond_b m_euclid_next_a m_euclid_next_b m_euclid_nextOfFirst_a m_euclid_nextOfFirst_b m_euclid_nextOfSecond_a m_euclid_nextOfSecond_b m_euclid_q_a m_euclid_q_b : Int64) (m_euclid_quotientA m_euclid_quotientB : Nat → Int64) (m_modulus_step m_modulus_width m_modulus_slant m_modulus_square_a m_modulus_square_b : Int64) (m_factors_count m_factors_threes m_factors_unit : Int32) (m_factors_primeA m_factors_primeB m_factors_norms : Nat → Int64) (m_factors_euclid_count : Int32) (m_factors_euclid_last_a m_factors_euclid_last_b m_factors_euclid_lastOfFirst_a m_factors_euclid_lastOfFirst_b m_factors_euclid_lastOfSecond_a m_factors_euclid_lastOfSecond_b m_factors_euclid_next_a m_factors_euclid_next_b m_factors_euclid_nextOfFirst_a m_factors_euclid_nextOfFirst_b m_factors_euclid_nextOfSecond_a m_factors_euclid_nextOfSecond_b m_factors_euclid_q_a m_factors_euclid_q_b : Int64) (m_factors_euclid_quotientA m_factors_euclid_quotientB : Nat → Int64) (m_factors_left_a m_factors_left_b m_factors_found_a m_factors_found_b m_factors_product_a m_factors_product_b : Int64) (m_primes_count : Int32) (m_primes_primeA m_primes_primeB : Nat → Int32) (m_primes_found_a m_primes_found_b : Int64) (m_rings_foundA m_rings_foundB m_rings_all m_rings_mostOfOneRow m_letters_count : Int32) (m_letters_bytes : Nat → Int32) (m_one_a m_one_b m_two_a m_two_b m_three_a m_three_b m_four_a m_four_b m_out_a m_out_b m_spare_a m_spare_b : Int64) (m_marks : Nat → Int32) (x : Int32 × Int32 × Int64 × Int64 × Int64 × Int64 × Int64 × Int64 × Int64 × Int64 × Int64 × Int64 × Int64 × Int64 × Int64 × Int64 × (Nat → Int64) × (Nat → Int64) × Int64 × Int64 × Int64 × Int64) (hf : f_X10_are N v1 v2 v3 m_drawers_full m_drawers_partA m_drawers_partB m_euclid_count m_euclid_last_a m_euclid_last_b m_euclid_lastOfFirst_a m_euclid_lastOfFirst_b m_euclid_lastOfSecond_a m_euclid_lastOfSecond_b m_euclid_next_a m_euclid_next_b m_euclid_nextOfFirst_a m_euclid_nextOfFirst_b m_euclid_nextOfSecond_a m_euclid_nextOfSecond_b m_euclid_q_a m_euclid_q_b m_euclid_quotientA m_euclid_quotientB m_one_a m_one_b m_two_a m_two_b = some x) : kx_MI l yX10_are cX10_are 5 (some .int) 4 98 D T [.ref (h 0), .int v1, .int v2, .int v3] (wC T h m_drawers_full m_drawers_kept m_drawers_partA m_drawers_partB m_drawers_keptA m_drawers_keptB m_drawers_keptFull m_tape_size m_tape_plain m_tape_omegas m_tape_end m_tape_place m_tape_plainTold m_tape_omegasTold m_tape_bytes m_euclid_count m_euclid_last_a m_euclid_last_b m_euclid_lastOfFirst_a m_euclid_lastOfFirst_b m_euclid_lastOfSecond_a m_euclid_lastOfSecond_b m_euclid_next_a m_euclid_next_b m_euclid_nextOfFirst_a m_euclid_nextOfFirst_b m_euclid_nextOfSecond_a m_euclid_nextOfSecond_b m_euclid_q_a m_euclid_q_b m_euclid_quotientA m_euclid_quotientB m_modulus_step m_modulus_width m_modulus_slant m_modulus_square_a m_modulus_square_b m_factors_count m_factors_threes m_factors_unit m_factors_primeA m_factors_primeB m_factors_norms m_factors_euclid_count m_factors_euclid_last_a m_factors_euclid_last_b m_factors_euclid_lastOfFirst_a m_factors_euclid_lastOfFirst_b m_factors_euclid_lastOfSecond_a m_factors_euclid_lastOfSecond_b m_factors_euclid_next_a m_factors_euclid_next_b m_factors_euclid_nextOfFirst_a m_factors_euclid_nextOfFirst_b m_factors_euclid_nextOfSecond_a m_factors_euclid_nextOfSecond_b m_factors_euclid_q_a m_factors_euclid_q_b m_factors_euclid_quotientA m_factors_euclid_quotientB m_factors_left_a m_factors_left_b m_factors_found_a m_factors_found_b m_factors_product_a m_factors_product_b m_primes_count m_primes_primeA m_primes_primeB m_primes_found_a m_primes_found_b m_rings_foundA m_rings_foundB m_rings_all m_rings_mostOfOneRow m_letters_count m_letters_bytes m_one_a m_one_b m_two_a m_two_b m_three_a m_three_b m_four_a m_four_b m_out_a m_out_b m_spare_a m_spare_b m_marks) (wC T h m_drawers_full m_drawers_kept m_drawers_partA m_drawers_partB m_drawers_keptA m_drawers_keptB m_drawers_keptFull m_tape_size m_tape_plain m_tape_omegas m_tape_end m_tape_place m_tape_plainTold m_tape_omegasTold m_tape_bytes x.2.1 x.2.2.1 x.2.2.2.1 x.2.2.2.2.1 x.2.2.2.2.2.1 x.2.2.2.2.2.2.1 x.2.2.2.2.2.2.2.1 x.2.2.2.2.2.2.2.2.1 x.2.2.2.2.2.2.2.2.2.1 x.2.2.2.2.2.2.2.2.2.2.1 x.2.2.2.2.2.2.2.2.2.2.2.1 x.2.2.2.2.2.2.2.2.2.2.2.2.1 x.2.2.2.2.2.2.2.2.2.2.2.2.2.1 x.2.2.2.2.2.2.2.2.2.2.2.2.2.2.1 x.2.2.2.2.2.2.2.2.2.2.2.2.2.2.2.1 x.2.2.2.2.2.2.2.2.2.2.2.2.2.2.2.2.1 x.2.2.2.2.2.2.2.2.2.2.2.2.2.2.2.2.2.1 m_modulus_step m_modulus_width m_modulus_slant m_modulus_square_a m_modulus_square_b m_factors_count m_factors_threes m_factors_unit m_factors_primeA m_factors_primeB m_factors_norms m_factors_euclid_count m_factors_euclid_last_a m_factors_euclid_last_b m_factors_euclid_lastOfFirst_a m_factors_euclid_lastOfFirst_b m_factors_euclid_lastOfSecond_a m_factors_euclid_lastOfSecond_b m_factors_euclid_next_a m_factors_euclid_next_b m_factors_euclid_nextOfFirst_a m_factors_euclid_nextOfFirst_b m_factors_euclid_nextOfSecond_a m_factors_euclid_nextOfSecond_b m_factors_euclid_q_a m_factors_euclid_q_b m_factors_euclid_quotientA m_factors_euclid_quotientB m_factors_left_a m_factors_left_b m_factors_found_a m_factors_found_b m_factors_product_a m_factors_product_b m_primes_count m_primes_primeA m_primes_primeB m_primes_found_a m_primes_found_b m_rings_foundA m_rings_foundB m_rings_all m_rings_mostOfOneRow m_letters_count m_letters_bytes x.2.2.2.2.2.2.2.2.2.2.2.2.2.2.2.2.2.2.1 x.2.2.2.2.2.2.2.2.2.2.2.2.2.2.2.2.2.2.2.1 x.2.2.2.2.2.2.2.2.2.2.2.2.2.2.2.2.2.2.2.2.1 x.2.2.2.2.2.2.2.2.2.2.2.2.2.2.2.2.2.2.2.2.2 m_three_a m_three_b m_four_a m_four_b m_out_a m_out_b m_spare_a m_spare_b m_marks) x.1 := by
  refine kx_ofMI RX10 rfl (plainFor_of_name (x := yX10_are) kpn_X10) rfl ?_
  intro E A H ls _ C X R hl
  have hl : lv_has ls 5 [(0, .ref (h 0)), (1, .int v1), (2, .int v2), (3, .int v3)] := hl
  rw [f_X10_are] at hf
  refine x_iload_n 1 C dX10_are_0 hl 3 rfl rfl ?_
  refine x_if_lt 9 4 C dX10_are_1 rfl rfl hf (fun hf => ?_) (fun hf => ?_)
  · refine x_iconst 10 C dX10_are_9 (-1 : Int32) kv_iconst_m1 rfl ?_
    obtain rfl := Option.some.inj hf
    exact R _ _ _ _ X dX10_are_10
  refine x_iload_n 5 C dX10_are_4 hl 3 rfl rfl ?_
  refine x_iconst 6 C dX10_are_5 (2 : Int32) kv_iconst_2 rfl ?_
  refine x_icmp_le 11 9 C dX10_are_6 rfl rfl hf (fun hf => ?_) (fun hf => ?_)
  · refine x_aload_n 12 C dX10_are_11 hl 0 rfl rfl ?_
    refine x_iload_n 13 C dX10_are_12 hl 1 rfl rfl ?_
    refine x_iload_n 14 C dX10_are_13 hl 2 rfl rfl ?_
    obtain ⟨y14, hy14, hf⟩ := kx_bind hf
    refine x_callVi0 17 C dX10_are_14 X hl kl_X10_176 (c_X10_loadTwo E.2.1 D T h v1 v2 m_drawers_full m_drawers_kept m_drawers_partA m_drawers_partB m_drawers_keptA m_drawers_keptB m_drawers_keptFull m_tape_size m_tape_plain m_tape_omegas m_tape_end m_tape_place m_tape_plainTold m_tape_omegasTold m_tape_bytes m_euclid_count m_euclid_last_a m_euclid_last_b m_euclid_lastOfFirst_a m_euclid_lastOfFirst_b m_euclid_lastOfSecond_a m_euclid_lastOfSecond_b m_euclid_next_a m_euclid_next_b m_euclid_nextOfFirst_a m_euclid_nextOfFirst_b m_euclid_nextOfSecond_a m_euclid_nextOfSecond_b m_euclid_q_a m_euclid_q_b m_euclid_quotientA m_euclid_quotientB m_modulus_step m_modulus_width m_modulus_slant m_modulus_square_a m_modulus_square_b m_factors_count m_factors_threes m_factors_unit m_factors_primeA m_factors_primeB m_factors_norms m_factors_euclid_count m_factors_euclid_last_a m_factors_euclid_last_b m_factors_euclid_lastOfFirst_a m_factors_euclid_lastOfFirst_b m_factors_euclid_lastOfSecond_a m_factors_euclid_lastOfSecond_b m_factors_euclid_next_a m_factors_euclid_next_b m_factors_euclid_nextOfFirst_a m_factors_euclid_nextOfFirst_b m_factors_euclid_nextOfSecond_a m_factors_euclid_nextOfSecond_b m_factors_euclid_q_a m_factors_euclid_q_b m_factors_euclid_quotientA m_factors_euclid_quotientB m_factors_left_a m_factors_left_b m_factors_found_a m_factors_found_b m_factors_product_a m_factors_product_b m_primes_count m_primes_primeA m_primes_primeB m_primes_found_a m_primes_found_b m_rings_foundA m_rings_foundB m_rings_all m_rings_mostOfOneRow m_letters_count m_letters_bytes m_one_a m_one_b m_two_a m_two_b m_three_a m_three_b m_four_a m_four_b m_out_a m_out_b m_spare_a m_spare_b m_marks y14 hy14) rfl rfl [] rfl rfl rfl rfl rfl rfl (fun H locs X => ?_)
    refine x_istore 19 C dX10_are_17 [(4, .int y14.1), (0, .ref (h 0)), (1, .int v1), (2, .int v2), (3, .int v3)] hl rfl rfl rfl (fun ls hl => ?_)
    refine x_iload 21 C dX10_are_19 hl 0 rfl rfl ?_
    refine x_if_eq 27 24 C dX10_are_21 rfl rfl hf (fun hf => ?_) (fun hf => ?_)
    · refine x_iload_n 28 C dX10_are_27 hl 4 rfl rfl ?_
      refine kx_sw hf (fun hs0 hf => ?_) (fun hs0 hf => ?_)
      · refine x_lookup (off := 28) 56 C dX10_are_28 (by decide) (by rw [hs0]; decide) rfl ?_
        refine x_aload_n 57 C dX10_are_56 hl 1 rfl rfl ?_
        refine x_get 60 C dX10_are_57 X kf_X10_70 0 rfl rfl rfl ?_
        refine x_aload_n 61 C dX10_are_60 hl 1 rfl rfl ?_
        refine x_get 64 C dX10_are_61 X kf_X10_74 0 rfl rfl rfl ?_
        obtain ⟨y64, hy64, hf⟩ := kx_bind hf
        refine x_callVi 67 C dX10_are_64 X hl kl_X10_218 (c_X5_isAlike E.2.1 D T (h 45) (h 46)  y14.2.1 y14.2.2.1 y14.2.2.2.1 y14.2.2.2.2 y64 hy64) rfl rfl [] rfl rfl rfl rfl rfl cb_67 rfl (fun H locs X => ?_)
        obtain ⟨y67, hy67, hf⟩ := kx_bind hf
        refine x_callSi 70 C dX10_are_67 X hl kl_X10_133 (c_X10_bit E.2.1 D T  y64  y67 hy67) [] rfl rfl rfl rfl rfl cb_2 rfl (fun H locs X => ?_)
        obtain rfl := Option.some.inj hf
        exact R _ _ _ _ X dX10_are_70
      refine kx_sw hf (fun hs1 hf => ?_) (fun hs1 hf => ?_)
      · refine x_lookup (off := 43) 71 C dX10_are_28 (by decide) (by rw [hs1]; decide) rfl ?_
        refine x_aload_n 72 C dX10_are_71 hl 1 rfl rfl ?_
        refine x_get 75 C dX10_are_72 X kf_X10_28 0 rfl rfl rfl ?_
        refine x_aload_n 76 C dX10_are_75 hl 1 rfl rfl ?_
        refine x_get 79 C dX10_are_76 X kf_X10_70 0 rfl rfl rfl ?_
        refine x_aload_n 80 C dX10_are_79 hl 1 rfl rfl ?_
        refine x_get 83 C dX10_are_80 X kf_X10_74 0 rfl rfl rfl ?_
        obtain ⟨y83, hy83, hf⟩ := kx_bind hf
        refine x_callVi 86 C dX10_are_83 X hl kl_X10_221 (c_X1_arePrimeToEachOther E.2.1 D T (h 9) (h 10) (h 11) (h 12) (h 13) (h 14) (h 15) (h 16) (h 17) (h 18) (h 45) (h 46) N  m_euclid_count m_euclid_last_a m_euclid_last_b m_euclid_lastOfFirst_a m_euclid_lastOfFirst_b m_euclid_lastOfSecond_a m_euclid_lastOfSecond_b m_euclid_next_a m_euclid_next_b m_euclid_nextOfFirst_a m_euclid_nextOfFirst_b m_euclid_nextOfSecond_a m_euclid_nextOfSecond_b m_euclid_q_a m_euclid_q_b m_euclid_quotientA m_euclid_quotientB y14.2.1 y14.2.2.1 y14.2.2.2.1 y14.2.2.2.2 y83 hy83) rfl rfl [] rfl rfl rfl rfl rfl cb_62 rfl (fun H locs X => ?_)
        obtain ⟨y86, hy86, hf⟩ := kx_bind hf
        refine x_callSi 89 C dX10_are_86 X hl kl_X10_133 (c_X10_bit E.2.1 D T  y83.1  y86 hy86) [] rfl rfl rfl rfl rfl cb_2 rfl (fun H locs X => ?_)
        obtain rfl := Option.some.inj hf
        exact R _ _ _ _ X dX10_are_89
      refine x_lookup (off := 62) 90 C dX10_are_28 (by decide) (by rw [lv_osw hs0 (by decide), lv_osw hs1 (by decide)]; rfl) rfl ?_
      refine x_aload_n 91 C dX10_are_90 hl 1 rfl rfl ?_
      refine x_get 94 C dX10_are_91 X kf_X10_74 0 rfl rfl rfl ?_
      refine x_aload_n 95 C dX10_are_94 hl 1 rfl rfl ?_
      refine x_get 98 C dX10_are_95 X kf_X10_70 0 rfl rfl rfl ?_
      obtain ⟨y98, hy98, hf⟩ := kx_bind hf
      refine x_callVi 101 C dX10_are_98 X hl kl_X10_225 (c_X5_isDividedBy E.2.1 D T (h 46) (h 45)  y14.2.2.2.1 y14.2.2.2.2 y14.2.1 y14.2.2.1 y98 hy98) rfl rfl [] rfl rfl rfl rfl rfl cb_68 rfl (fun H locs X => ?_)
      obtain ⟨y101, hy101, hf⟩ := kx_bind hf
      refine x_callSi 104 C dX10_are_101 X hl kl_X10_133 (c_X10_bit E.2.1 D T  y98  y101 hy101) [] rfl rfl rfl rfl rfl cb_2 rfl (fun H locs X => ?_)
      obtain rfl := Option.some.inj hf
      exact R _ _ _ _ X dX10_are_104
    refine x_iload 26 C dX10_are_24 hl 0 rfl rfl ?_
    obtain rfl := Option.some.inj hf
    exact R _ _ _ _ X dX10_are_26
  refine x_iconst 10 C dX10_are_9 (-1 : Int32) kv_iconst_m1 rfl ?_
  obtain rfl := Option.some.inj hf
  exact R _ _ _ _ X dX10_are_10
set_option maxHeartbeats 4000000 in
set_option maxRecDepth 100000 in
theorem c_X11_divides (l : Launch) (D : va_G) (T : KT) (h : Nat → Nat) (v1 v3 v5 v7 : Int64) (m_taped m_states : Int32) (m_ra m_rb : Int64) (m_threes m_primes m_ones m_unit : Int32) (m_allParts m_allNorms m_allClasses : Int64) (m_odd : Int32) (m_boxWide m_boxHigh m_boxStep : Int64) (m_partingMany : Int32) (m_qa m_qb m_la m_lb m_sa m_sb m_ta m_tb : Int64) (m_listed m_tells m_wanted m_found : Int32) (m_bits : Int64) (m_power2 m_rings m_ringA m_ringB m_seedNow : Int32) (m_tape m_has m_keptHas m_first m_second m_keptFirst m_keptSecond m_pa m_pb m_pNorm m_cubed m_isOpen m_signs m_often m_la0 m_lb0 : Nat → Int32) (x : Int32 × Int64 × Int64) (hf : f_X11_divides v1 v3 v5 v7 = some x) : kx_MI l yX11_divides cX11_divides 9 (some .boolean) 4 110 D T [.ref (h 0), .long v1, .long v3, .long v5, .long v7] (wM T h m_taped m_states m_ra m_rb m_threes m_primes m_ones m_unit m_allParts m_allNorms m_allClasses m_odd m_boxWide m_boxHigh m_boxStep m_partingMany m_qa m_qb m_la m_lb m_sa m_sb m_ta m_tb m_listed m_tells m_wanted m_found m_bits m_power2 m_rings m_ringA m_ringB m_seedNow m_tape m_has m_keptHas m_first m_second m_keptFirst m_keptSecond m_pa m_pb m_pNorm m_cubed m_isOpen m_signs m_often m_la0 m_lb0) (wM T h m_taped m_states x.2.1 x.2.2 m_threes m_primes m_ones m_unit m_allParts m_allNorms m_allClasses m_odd m_boxWide m_boxHigh m_boxStep m_partingMany m_qa m_qb m_la m_lb m_sa m_sb m_ta m_tb m_listed m_tells m_wanted m_found m_bits m_power2 m_rings m_ringA m_ringB m_seedNow m_tape m_has m_keptHas m_first m_second m_keptFirst m_keptSecond m_pa m_pb m_pNorm m_cubed m_isOpen m_signs m_often m_la0 m_lb0) x.1 := by
  refine kx_ofMZ RX11 rfl (plainFor_of_name (x := yX11_divides) kpn_X11) rfl ?_
  intro E A H ls _ C X R hl
  have hl : lv_has ls 9 [(0, .ref (h 0)), (1, .long v1), (3, .long v3), (5, .long v5), (7, .long v7)] := hl
  rw [f_X11_divides] at hf
  refine x_aload_n 1 C dX11_divides_0 hl 0 rfl rfl ?_
  refine x_lload 3 C dX11_divides_1 hl 3 rfl rfl ?_
  refine x_lload 5 C dX11_divides_3 hl 4 rfl rfl ?_
  refine x_lload_n 6 C dX11_divides_5 hl 1 rfl rfl ?_
  refine x_lload_n 7 C dX11_divides_6 hl 2 rfl rfl ?_
  obtain ⟨y7, hy7, hf⟩ := kx_bind hf
  refine x_callVv0 10 C dX11_divides_7 X hl kl_X11_131 (c_X11_rests E.2.1 D T h v5 v7 v1 v3 m_taped m_states m_ra m_rb m_threes m_primes m_ones m_unit m_allParts m_allNorms m_allClasses m_odd m_boxWide m_boxHigh m_boxStep m_partingMany m_qa m_qb m_la m_lb m_sa m_sb m_ta m_tb m_listed m_tells m_wanted m_found m_bits m_power2 m_rings m_ringA m_ringB m_seedNow m_tape m_has m_keptHas m_first m_second m_keptFirst m_keptSecond m_pa m_pb m_pNorm m_cubed m_isOpen m_signs m_often m_la0 m_lb0 y7 hy7) rfl rfl [] rfl rfl rfl rfl rfl rfl (fun H locs X => ?_)
  refine x_aload_n 11 C dX11_divides_10 hl 0 rfl rfl ?_
  refine x_get 14 C dX11_divides_11 X kf_X11_105 0 rfl rfl rfl ?_
  refine x_lconst 15 C dX11_divides_14 (0 : Int64) kv_lconst_0 rfl ?_
  refine x_lcmp_ne 32 16 19 C dX11_divides_15 dX11_divides_16 rfl rfl rfl hf (fun hf => ?_) (fun hf => ?_)
  · refine x_iconst 33 C dX11_divides_32 (0 : Int32) kv_iconst_0 rfl ?_
    obtain rfl := Option.some.inj hf
    exact R _ _ _ _ X kb_0 dX11_divides_33
  refine x_aload_n 20 C dX11_divides_19 hl 0 rfl rfl ?_
  refine x_get 23 C dX11_divides_20 X kf_X11_109 0 rfl rfl rfl ?_
  refine x_lconst 24 C dX11_divides_23 (0 : Int64) kv_lconst_0 rfl ?_
  refine x_lcmp_ne 32 25 28 C dX11_divides_24 dX11_divides_25 rfl rfl rfl hf (fun hf => ?_) (fun hf => ?_)
  · refine x_iconst 33 C dX11_divides_32 (0 : Int32) kv_iconst_0 rfl ?_
    obtain rfl := Option.some.inj hf
    exact R _ _ _ _ X kb_0 dX11_divides_33
  refine x_iconst 29 C dX11_divides_28 (1 : Int32) kv_iconst_1 rfl ?_
  refine x_goto 33 C dX11_divides_29 rfl ?_
  obtain rfl := Option.some.inj hf
  exact R _ _ _ _ X kb_1 dX11_divides_33
set_option maxHeartbeats 4000000 in
set_option maxRecDepth 100000 in
theorem w_X11_arePrimeTo_28 {E : KE} {A : Nat → Prop} {D : va_G} {T : KT} (h : Nat → Nat) (C : kx_C E cX11_arePrimeTo 9 (some .boolean) RX11 5 146 D T) (N : Nat) (x : Int32 × Int64 × Int64) (m_taped m_states m_threes m_primes m_ones m_unit : Int32) (m_allParts m_allNorms m_allClasses : Int64) (m_odd : Int32) (m_boxWide m_boxHigh m_boxStep : Int64) (m_partingMany : Int32) (m_qa m_qb m_la m_lb m_sa m_sb m_ta m_tb : Int64) (m_listed m_tells m_wanted m_found : Int32) (m_bits : Int64) (m_power2 m_rings m_ringA m_ringB m_seedNow : Int32) (m_tape m_has m_keptHas m_first m_second m_keptFirst m_keptSecond m_pa m_pb m_pNorm m_cubed m_isOpen m_signs m_often m_la0 m_lb0 : Nat → Int32) (R : kx_RZ E cX11_arePrimeTo D A (wM T h m_taped m_states x.2.1 x.2.2 m_threes m_primes m_ones m_unit m_allParts m_allNorms m_allClasses m_odd m_boxWide m_boxHigh m_boxStep m_partingMany m_qa m_qb m_la m_lb m_sa m_sb m_ta m_tb m_listed m_tells m_wanted m_found m_bits m_power2 m_rings m_ringA m_ringB m_seedNow m_tape m_has m_keptHas m_first m_second m_keptFirst m_keptSecond m_pa m_pb m_pNorm m_cubed m_isOpen m_signs m_often m_la0 m_lb0) x.1) : ∀ (m_ra m_rb : Int64) (v1 v3 v5 v7 : Int64) (H : Heap) (locs : List Loc) (ls : Array Slot), kx_H E D A H locs (wM T h m_taped m_states m_ra m_rb m_threes m_primes m_ones m_unit m_allParts m_allNorms m_allClasses m_odd m_boxWide m_boxHigh m_boxStep m_partingMany m_qa m_qb m_la m_lb m_sa m_sb m_ta m_tb m_listed m_tells m_wanted m_found m_bits m_power2 m_rings m_ringA m_ringB m_seedNow m_tape m_has m_keptHas m_first m_second m_keptFirst m_keptSecond m_pa m_pb m_pNorm m_cubed m_isOpen m_signs m_often m_la0 m_lb0) → lv_has ls 9 [(0, .ref (h 0)), (1, .long v1), (3, .long v3), (5, .long v5), (7, .long v7)] → f_X11_arePrimeTo_28 N v1 v3 v5 v7 = some x → kx_W E H locs 28 ls [] := by
  intro m_ra m_rb v1 v3 v5 v7 H locs ls X hl hf
  rw [f_X11_arePrimeTo_28] at hf
  refine x_aload_n 29 C dX11_arePrimeTo_28 hl 0 rfl rfl ?_
  refine x_lload_n 30 C dX11_arePrimeTo_29 hl 1 rfl rfl ?_
  refine x_lload_n 31 C dX11_arePrimeTo_30 hl 2 rfl rfl ?_
  refine x_lload 33 C dX11_arePrimeTo_31 hl 3 rfl rfl ?_
  refine x_lload 35 C dX11_arePrimeTo_33 hl 4 rfl rfl ?_
  obtain ⟨y35, hy35, hf⟩ := kx_bind hf
  refine x_callVv0 38 C dX11_arePrimeTo_35 X hl kl_X11_153 (c_X11_commons E.2.1 D T h N v1 v3 v5 v7 m_taped m_states m_ra m_rb m_threes m_primes m_ones m_unit m_allParts m_allNorms m_allClasses m_odd m_boxWide m_boxHigh m_boxStep m_partingMany m_qa m_qb m_la m_lb m_sa m_sb m_ta m_tb m_listed m_tells m_wanted m_found m_bits m_power2 m_rings m_ringA m_ringB m_seedNow m_tape m_has m_keptHas m_first m_second m_keptFirst m_keptSecond m_pa m_pb m_pNorm m_cubed m_isOpen m_signs m_often m_la0 m_lb0 y35 hy35) rfl rfl [] rfl rfl rfl rfl rfl rfl (fun H locs X => ?_)
  refine x_aload_n 39 C dX11_arePrimeTo_38 hl 0 rfl rfl ?_
  refine x_get 42 C dX11_arePrimeTo_39 X kf_X11_105 0 rfl rfl rfl ?_
  refine x_aload_n 43 C dX11_arePrimeTo_42 hl 0 rfl rfl ?_
  refine x_get 46 C dX11_arePrimeTo_43 X kf_X11_109 0 rfl rfl rfl ?_
  obtain ⟨y46, hy46, hf⟩ := kx_bind hf
  refine x_callSl 49 C dX11_arePrimeTo_46 X hl kl_X11_112 (c_X11_norm E.2.1 D T  y35.1 y35.2  y46 hy46) [] rfl rfl rfl rfl rfl cb_7 rfl (fun H locs X => ?_)
  refine x_lconst 50 C dX11_arePrimeTo_49 (1 : Int64) kv_lconst_1 rfl ?_
  refine x_lcmp_ne 58 51 54 C dX11_arePrimeTo_50 dX11_arePrimeTo_51 rfl rfl rfl hf (fun hf => ?_) (fun hf => ?_)
  · refine x_iconst 59 C dX11_arePrimeTo_58 (0 : Int32) kv_iconst_0 rfl ?_
    obtain rfl := Option.some.inj hf
    exact R _ _ _ _ X kb_0 dX11_arePrimeTo_59
  refine x_iconst 55 C dX11_arePrimeTo_54 (1 : Int32) kv_iconst_1 rfl ?_
  refine x_goto 59 C dX11_arePrimeTo_55 rfl ?_
  obtain rfl := Option.some.inj hf
  exact R _ _ _ _ X kb_1 dX11_arePrimeTo_59
set_option maxHeartbeats 4000000 in
set_option maxRecDepth 100000 in
theorem c_X11_arePrimeTo (l : Launch) (D : va_G) (T : KT) (h : Nat → Nat) (N : Nat) (v1 v3 v5 v7 : Int64) (m_taped m_states : Int32) (m_ra m_rb : Int64) (m_threes m_primes m_ones m_unit : Int32) (m_allParts m_allNorms m_allClasses : Int64) (m_odd : Int32) (m_boxWide m_boxHigh m_boxStep : Int64) (m_partingMany : Int32) (m_qa m_qb m_la m_lb m_sa m_sb m_ta m_tb : Int64) (m_listed m_tells m_wanted m_found : Int32) (m_bits : Int64) (m_power2 m_rings m_ringA m_ringB m_seedNow : Int32) (m_tape m_has m_keptHas m_first m_second m_keptFirst m_keptSecond m_pa m_pb m_pNorm m_cubed m_isOpen m_signs m_often m_la0 m_lb0 : Nat → Int32) (x : Int32 × Int64 × Int64) (hf : f_X11_arePrimeTo N v1 v3 v5 v7 m_ra m_rb = some x) : kx_MI l yX11_arePrimeTo cX11_arePrimeTo 9 (some .boolean) 5 146 D T [.ref (h 0), .long v1, .long v3, .long v5, .long v7] (wM T h m_taped m_states m_ra m_rb m_threes m_primes m_ones m_unit m_allParts m_allNorms m_allClasses m_odd m_boxWide m_boxHigh m_boxStep m_partingMany m_qa m_qb m_la m_lb m_sa m_sb m_ta m_tb m_listed m_tells m_wanted m_found m_bits m_power2 m_rings m_ringA m_ringB m_seedNow m_tape m_has m_keptHas m_first m_second m_keptFirst m_keptSecond m_pa m_pb m_pNorm m_cubed m_isOpen m_signs m_often m_la0 m_lb0) (wM T h m_taped m_states x.2.1 x.2.2 m_threes m_primes m_ones m_unit m_allParts m_allNorms m_allClasses m_odd m_boxWide m_boxHigh m_boxStep m_partingMany m_qa m_qb m_la m_lb m_sa m_sb m_ta m_tb m_listed m_tells m_wanted m_found m_bits m_power2 m_rings m_ringA m_ringB m_seedNow m_tape m_has m_keptHas m_first m_second m_keptFirst m_keptSecond m_pa m_pb m_pNorm m_cubed m_isOpen m_signs m_often m_la0 m_lb0) x.1 := by
  refine kx_ofMZ RX11 rfl (plainFor_of_name (x := yX11_arePrimeTo) kpn_X11) rfl ?_
  intro E A H ls _ C X R hl
  have hl : lv_has ls 9 [(0, .ref (h 0)), (1, .long v1), (3, .long v3), (5, .long v5), (7, .long v7)] := hl
  rw [f_X11_arePrimeTo] at hf
  refine x_lload_n 1 C dX11_arePrimeTo_0 hl 1 rfl rfl ?_
  refine x_lconst 2 C dX11_arePrimeTo_1 (0 : Int64) kv_lconst_0 rfl ?_
  refine x_lcmp_ne 28 3 6 C dX11_arePrimeTo_2 dX11_arePrimeTo_3 rfl rfl rfl hf (fun hf => ?_) (fun hf => ?_)
  · exact w_X11_arePrimeTo_28 h C N x m_taped m_states m_threes m_primes m_ones m_unit m_allParts m_allNorms m_allClasses m_odd m_boxWide m_boxHigh m_boxStep m_partingMany m_qa m_qb m_la m_lb m_sa m_sb m_ta m_tb m_listed m_tells m_wanted m_found m_bits m_power2 m_rings m_ringA m_ringB m_seedNow m_tape m_has m_keptHas m_first m_second m_keptFirst m_keptSecond m_pa m_pb m_pNorm m_cubed m_isOpen m_signs m_often m_la0 m_lb0 R  m_ra m_rb v1 v3 v5 v7 _ _ _ X (lv_sub hl [0, 1, 2, 3, 4] rfl) hf
  refine x_lload_n 7 C dX11_arePrimeTo_6 hl 2 rfl rfl ?_
  refine x_lconst 8 C dX11_arePrimeTo_7 (0 : Int64) kv_lconst_0 rfl ?_
  refine x_lcmp_ne 28 9 12 C dX11_arePrimeTo_8 dX11_arePrimeTo_9 rfl rfl rfl hf (fun hf => ?_) (fun hf => ?_)
  · exact w_X11_arePrimeTo_28 h C N x m_taped m_states m_threes m_primes m_ones m_unit m_allParts m_allNorms m_allClasses m_odd m_boxWide m_boxHigh m_boxStep m_partingMany m_qa m_qb m_la m_lb m_sa m_sb m_ta m_tb m_listed m_tells m_wanted m_found m_bits m_power2 m_rings m_ringA m_ringB m_seedNow m_tape m_has m_keptHas m_first m_second m_keptFirst m_keptSecond m_pa m_pb m_pNorm m_cubed m_isOpen m_signs m_often m_la0 m_lb0 R  m_ra m_rb v1 v3 v5 v7 _ _ _ X (lv_sub hl [0, 1, 2, 3, 4] rfl) hf
  refine x_lload 14 C dX11_arePrimeTo_12 hl 3 rfl rfl ?_
  refine x_lconst 15 C dX11_arePrimeTo_14 (0 : Int64) kv_lconst_0 rfl ?_
  refine x_lcmp_ne 28 16 19 C dX11_arePrimeTo_15 dX11_arePrimeTo_16 rfl rfl rfl hf (fun hf => ?_) (fun hf => ?_)
  · exact w_X11_arePrimeTo_28 h C N x m_taped m_states m_threes m_primes m_ones m_unit m_allParts m_allNorms m_allClasses m_odd m_boxWide m_boxHigh m_boxStep m_partingMany m_qa m_qb m_la m_lb m_sa m_sb m_ta m_tb m_listed m_tells m_wanted m_found m_bits m_power2 m_rings m_ringA m_ringB m_seedNow m_tape m_has m_keptHas m_first m_second m_keptFirst m_keptSecond m_pa m_pb m_pNorm m_cubed m_isOpen m_signs m_often m_la0 m_lb0 R  m_ra m_rb v1 v3 v5 v7 _ _ _ X (lv_sub hl [0, 1, 2, 3, 4] rfl) hf
  refine x_lload 21 C dX11_arePrimeTo_19 hl 4 rfl rfl ?_
  refine x_lconst 22 C dX11_arePrimeTo_21 (0 : Int64) kv_lconst_0 rfl ?_
  refine x_lcmp_ne 28 23 26 C dX11_arePrimeTo_22 dX11_arePrimeTo_23 rfl rfl rfl hf (fun hf => ?_) (fun hf => ?_)
  · exact w_X11_arePrimeTo_28 h C N x m_taped m_states m_threes m_primes m_ones m_unit m_allParts m_allNorms m_allClasses m_odd m_boxWide m_boxHigh m_boxStep m_partingMany m_qa m_qb m_la m_lb m_sa m_sb m_ta m_tb m_listed m_tells m_wanted m_found m_bits m_power2 m_rings m_ringA m_ringB m_seedNow m_tape m_has m_keptHas m_first m_second m_keptFirst m_keptSecond m_pa m_pb m_pNorm m_cubed m_isOpen m_signs m_often m_la0 m_lb0 R  m_ra m_rb v1 v3 v5 v7 _ _ _ X (lv_sub hl [0, 1, 2, 3, 4] rfl) hf
  refine x_iconst 27 C dX11_arePrimeTo_26 (0 : Int32) kv_iconst_0 rfl ?_
  obtain rfl := Option.some.inj hf
  exact R _ _ _ _ X kb_0 dX11_arePrimeTo_27
set_option maxHeartbeats 4000000 in
set_option maxRecDepth 100000 in
theorem w_X11_areAlike_6 {E : KE} {A : Nat → Prop} {D : va_G} {T : KT} (h : Nat → Nat) (C : kx_C E cX11_areAlike 11 (some .boolean) RX11 3 78 D T) (N : Nat) (x : Int32 × Int64 × Int64) (m_taped m_states m_threes m_primes m_ones m_unit : Int32) (m_allParts m_allNorms m_allClasses : Int64) (m_odd : Int32) (m_boxWide m_boxHigh m_boxStep : Int64) (m_partingMany : Int32) (m_qa m_qb m_la m_lb m_sa m_sb m_ta m_tb : Int64) (m_listed m_tells m_wanted m_found : Int32) (m_bits : Int64) (m_power2 m_rings m_ringA m_ringB m_seedNow : Int32) (m_tape m_has m_keptHas m_first m_second m_keptFirst m_keptSecond m_pa m_pb m_pNorm m_cubed m_isOpen m_signs m_often m_la0 m_lb0 : Nat → Int32) (R : kx_RZ E cX11_areAlike D A (wM T h m_taped m_states x.2.1 x.2.2 m_threes m_primes m_ones m_unit m_allParts m_allNorms m_allClasses m_odd m_boxWide m_boxHigh m_boxStep m_partingMany m_qa m_qb m_la m_lb m_sa m_sb m_ta m_tb m_listed m_tells m_wanted m_found m_bits m_power2 m_rings m_ringA m_ringB m_seedNow m_tape m_has m_keptHas m_first m_second m_keptFirst m_keptSecond m_pa m_pb m_pNorm m_cubed m_isOpen m_signs m_often m_la0 m_lb0) x.1) : ∀ (k : Nat), ∀ (m_ra m_rb : Int64) (v1 v3 v5 v7 : Int64) (v9 v10 : Int32) (H : Heap) (locs : List Loc) (ls : Array Slot), kx_H E D A H locs (wM T h m_taped m_states m_ra m_rb m_threes m_primes m_ones m_unit m_allParts m_allNorms m_allClasses m_odd m_boxWide m_boxHigh m_boxStep m_partingMany m_qa m_qb m_la m_lb m_sa m_sb m_ta m_tb m_listed m_tells m_wanted m_found m_bits m_power2 m_rings m_ringA m_ringB m_seedNow m_tape m_has m_keptHas m_first m_second m_keptFirst m_keptSecond m_pa m_pb m_pNorm m_cubed m_isOpen m_signs m_often m_la0 m_lb0) → lv_has ls 11 [(0, .ref (h 0)), (1, .long v1), (3, .long v3), (5, .long v5), (7, .long v7), (9, .int v9), (10, .int v10)] → f_X11_areAlike_6 N k v1 v3 v5 v7 v9 v10 m_ra m_rb = some x → kx_W E H locs 6 ls [] := by
  intro k
  induction k with
  | zero =>
    intro m_ra m_rb v1 v3 v5 v7 v9 v10 H locs ls X hl hf
    cases (show (none : Option (Int32 × Int64 × Int64)) = some x from hf)
  | succ k ih =>
    intro m_ra m_rb v1 v3 v5 v7 v9 v10 H locs ls X hl hf
    rw [f_X11_areAlike_6] at hf
    refine x_iload 8 C dX11_areAlike_6 hl 6 rfl rfl ?_
    refine x_bipush 10 C dX11_areAlike_8 (6 : Int32) kv_bipush_6 rfl ?_
    refine x_icmp_ge 59 13 C dX11_areAlike_10 rfl rfl hf (fun hf => ?_) (fun hf => ?_)
    · refine x_iload 61 C dX11_areAlike_59 hl 5 rfl rfl ?_
      refine kx_sw hf (fun hz hf => ?_) (fun _ hf => by cases hf)
      obtain rfl := Option.some.inj hf
      exact R _ _ _ _ X hz dX11_areAlike_61
    refine x_aload_n 14 C dX11_areAlike_13 hl 0 rfl rfl ?_
    refine x_lload_n 15 C dX11_areAlike_14 hl 1 rfl rfl ?_
    refine x_lload_n 16 C dX11_areAlike_15 hl 2 rfl rfl ?_
    refine x_iload 18 C dX11_areAlike_16 hl 6 rfl rfl ?_
    obtain ⟨y18, hy18, hf⟩ := kx_bind hf
    refine x_callVv0 21 C dX11_areAlike_18 X hl kl_X11_187 (c_X11_unitTimes E.2.1 D T h N v1 v3 v10 m_taped m_states m_ra m_rb m_threes m_primes m_ones m_unit m_allParts m_allNorms m_allClasses m_odd m_boxWide m_boxHigh m_boxStep m_partingMany m_qa m_qb m_la m_lb m_sa m_sb m_ta m_tb m_listed m_tells m_wanted m_found m_bits m_power2 m_rings m_ringA m_ringB m_seedNow m_tape m_has m_keptHas m_first m_second m_keptFirst m_keptSecond m_pa m_pb m_pNorm m_cubed m_isOpen m_signs m_often m_la0 m_lb0 y18 hy18) rfl rfl [] rfl rfl rfl rfl rfl rfl (fun H locs X => ?_)
    refine x_iload 23 C dX11_areAlike_21 hl 5 rfl rfl ?_
    refine x_if_ne 46 26 C dX11_areAlike_23 rfl rfl hf (fun hf => ?_) (fun hf => ?_)
    · refine x_iconst 47 C dX11_areAlike_46 (1 : Int32) kv_iconst_1 rfl ?_
      refine x_goto 51 C dX11_areAlike_47 rfl ?_
      refine x_istore 53 C dX11_areAlike_51 [(9, .int (1 : Int32)), (0, .ref (h 0)), (1, .long v1), (3, .long v3), (5, .long v5), (7, .long v7), (10, .int v10)] hl rfl rfl rfl (fun ls hl => ?_)
      refine x_iinc 56 C dX11_areAlike_53 (1 : Int32) kv_iconst_1 [(10, .int (v10 + (1 : Int32))), (9, .int (1 : Int32)), (0, .ref (h 0)), (1, .long v1), (3, .long v3), (5, .long v5), (7, .long v7)] hl 6 rfl rfl rfl rfl (fun ls hl => ?_)
      refine x_goto 6 C dX11_areAlike_56 rfl ?_
      exact ih y18.1 y18.2 v1 v3 v5 v7 (1 : Int32) (v10 + (1 : Int32)) _ _ _ X (lv_sub hl [2, 3, 4, 5, 6, 1, 0] rfl) hf
    refine x_aload_n 27 C dX11_areAlike_26 hl 0 rfl rfl ?_
    refine x_get 30 C dX11_areAlike_27 X kf_X11_105 0 rfl rfl rfl ?_
    refine x_lload 32 C dX11_areAlike_30 hl 3 rfl rfl ?_
    refine x_lcmp_ne 50 33 36 C dX11_areAlike_32 dX11_areAlike_33 rfl rfl rfl hf (fun hf => ?_) (fun hf => ?_)
    · refine x_iconst 51 C dX11_areAlike_50 (0 : Int32) kv_iconst_0 rfl ?_
      refine x_istore 53 C dX11_areAlike_51 [(9, .int (0 : Int32)), (0, .ref (h 0)), (1, .long v1), (3, .long v3), (5, .long v5), (7, .long v7), (10, .int v10)] hl rfl rfl rfl (fun ls hl => ?_)
      refine x_iinc 56 C dX11_areAlike_53 (1 : Int32) kv_iconst_1 [(10, .int (v10 + (1 : Int32))), (9, .int (0 : Int32)), (0, .ref (h 0)), (1, .long v1), (3, .long v3), (5, .long v5), (7, .long v7)] hl 6 rfl rfl rfl rfl (fun ls hl => ?_)
      refine x_goto 6 C dX11_areAlike_56 rfl ?_
      exact ih y18.1 y18.2 v1 v3 v5 v7 (0 : Int32) (v10 + (1 : Int32)) _ _ _ X (lv_sub hl [2, 3, 4, 5, 6, 1, 0] rfl) hf
    refine x_aload_n 37 C dX11_areAlike_36 hl 0 rfl rfl ?_
    refine x_get 40 C dX11_areAlike_37 X kf_X11_109 0 rfl rfl rfl ?_
    refine x_lload 42 C dX11_areAlike_40 hl 4 rfl rfl ?_
    refine x_lcmp_ne 50 43 46 C dX11_areAlike_42 dX11_areAlike_43 rfl rfl rfl hf (fun hf => ?_) (fun hf => ?_)
    · refine x_iconst 51 C dX11_areAlike_50 (0 : Int32) kv_iconst_0 rfl ?_
      refine x_istore 53 C dX11_areAlike_51 [(9, .int (0 : Int32)), (0, .ref (h 0)), (1, .long v1), (3, .long v3), (5, .long v5), (7, .long v7), (10, .int v10)] hl rfl rfl rfl (fun ls hl => ?_)
      refine x_iinc 56 C dX11_areAlike_53 (1 : Int32) kv_iconst_1 [(10, .int (v10 + (1 : Int32))), (9, .int (0 : Int32)), (0, .ref (h 0)), (1, .long v1), (3, .long v3), (5, .long v5), (7, .long v7)] hl 6 rfl rfl rfl rfl (fun ls hl => ?_)
      refine x_goto 6 C dX11_areAlike_56 rfl ?_
      exact ih y18.1 y18.2 v1 v3 v5 v7 (0 : Int32) (v10 + (1 : Int32)) _ _ _ X (lv_sub hl [2, 3, 4, 5, 6, 1, 0] rfl) hf
    refine x_iconst 47 C dX11_areAlike_46 (1 : Int32) kv_iconst_1 rfl ?_
    refine x_goto 51 C dX11_areAlike_47 rfl ?_
    refine x_istore 53 C dX11_areAlike_51 [(9, .int (1 : Int32)), (0, .ref (h 0)), (1, .long v1), (3, .long v3), (5, .long v5), (7, .long v7), (10, .int v10)] hl rfl rfl rfl (fun ls hl => ?_)
    refine x_iinc 56 C dX11_areAlike_53 (1 : Int32) kv_iconst_1 [(10, .int (v10 + (1 : Int32))), (9, .int (1 : Int32)), (0, .ref (h 0)), (1, .long v1), (3, .long v3), (5, .long v5), (7, .long v7)] hl 6 rfl rfl rfl rfl (fun ls hl => ?_)
    refine x_goto 6 C dX11_areAlike_56 rfl ?_
    exact ih y18.1 y18.2 v1 v3 v5 v7 (1 : Int32) (v10 + (1 : Int32)) _ _ _ X (lv_sub hl [2, 3, 4, 5, 6, 1, 0] rfl) hf
set_option maxHeartbeats 4000000 in
set_option maxRecDepth 100000 in
theorem c_X11_areAlike (l : Launch) (D : va_G) (T : KT) (h : Nat → Nat) (N : Nat) (v1 v3 v5 v7 : Int64) (m_taped m_states : Int32) (m_ra m_rb : Int64) (m_threes m_primes m_ones m_unit : Int32) (m_allParts m_allNorms m_allClasses : Int64) (m_odd : Int32) (m_boxWide m_boxHigh m_boxStep : Int64) (m_partingMany : Int32) (m_qa m_qb m_la m_lb m_sa m_sb m_ta m_tb : Int64) (m_listed m_tells m_wanted m_found : Int32) (m_bits : Int64) (m_power2 m_rings m_ringA m_ringB m_seedNow : Int32) (m_tape m_has m_keptHas m_first m_second m_keptFirst m_keptSecond m_pa m_pb m_pNorm m_cubed m_isOpen m_signs m_often m_la0 m_lb0 : Nat → Int32) (x : Int32 × Int64 × Int64) (hf : f_X11_areAlike N v1 v3 v5 v7 m_ra m_rb = some x) : kx_MI l yX11_areAlike cX11_areAlike 11 (some .boolean) 3 78 D T [.ref (h 0), .long v1, .long v3, .long v5, .long v7] (wM T h m_taped m_states m_ra m_rb m_threes m_primes m_ones m_unit m_allParts m_allNorms m_allClasses m_odd m_boxWide m_boxHigh m_boxStep m_partingMany m_qa m_qb m_la m_lb m_sa m_sb m_ta m_tb m_listed m_tells m_wanted m_found m_bits m_power2 m_rings m_ringA m_ringB m_seedNow m_tape m_has m_keptHas m_first m_second m_keptFirst m_keptSecond m_pa m_pb m_pNorm m_cubed m_isOpen m_signs m_often m_la0 m_lb0) (wM T h m_taped m_states x.2.1 x.2.2 m_threes m_primes m_ones m_unit m_allParts m_allNorms m_allClasses m_odd m_boxWide m_boxHigh m_boxStep m_partingMany m_qa m_qb m_la m_lb m_sa m_sb m_ta m_tb m_listed m_tells m_wanted m_found m_bits m_power2 m_rings m_ringA m_ringB m_seedNow m_tape m_has m_keptHas m_first m_second m_keptFirst m_keptSecond m_pa m_pb m_pNorm m_cubed m_isOpen m_signs m_often m_la0 m_lb0) x.1 := by
  refine kx_ofMZ RX11 rfl (plainFor_of_name (x := yX11_areAlike) kpn_X11) rfl ?_
  intro E A H ls _ C X R hl
  have hl : lv_has ls 11 [(0, .ref (h 0)), (1, .long v1), (3, .long v3), (5, .long v5), (7, .long v7)] := hl
  rw [f_X11_areAlike] at hf
  refine x_iconst 1 C dX11_areAlike_0 (0 : Int32) kv_iconst_0 rfl ?_
  refine x_istore 3 C dX11_areAlike_1 [(9, .int (0 : Int32)), (0, .ref (h 0)), (1, .long v1), (3, .long v3), (5, .long v5), (7, .long v7)] hl rfl rfl rfl (fun ls hl => ?_)
  refine x_iconst 4 C dX11_areAlike_3 (0 : Int32) kv_iconst_0 rfl ?_
  refine x_istore 6 C dX11_areAlike_4 [(10, .int (0 : Int32)), (9, .int (0 : Int32)), (0, .ref (h 0)), (1, .long v1), (3, .long v3), (5, .long v5), (7, .long v7)] hl rfl rfl rfl (fun ls hl => ?_)
  exact w_X11_areAlike_6 h C N x m_taped m_states m_threes m_primes m_ones m_unit m_allParts m_allNorms m_allClasses m_odd m_boxWide m_boxHigh m_boxStep m_partingMany m_qa m_qb m_la m_lb m_sa m_sb m_ta m_tb m_listed m_tells m_wanted m_found m_bits m_power2 m_rings m_ringA m_ringB m_seedNow m_tape m_has m_keptHas m_first m_second m_keptFirst m_keptSecond m_pa m_pb m_pNorm m_cubed m_isOpen m_signs m_often m_la0 m_lb0 R  N m_ra m_rb v1 v3 v5 v7 (0 : Int32) (0 : Int32) _ _ _ X (lv_sub hl [2, 3, 4, 5, 6, 1, 0] rfl) hf
set_option maxHeartbeats 4000000 in
set_option maxRecDepth 100000 in
theorem c_X11_are (l : Launch) (D : va_G) (T : KT) (h : Nat → Nat) (N : Nat) (v1 v2 v3 : Int32) (m_taped m_states : Int32) (m_ra m_rb : Int64) (m_threes m_primes m_ones m_unit : Int32) (m_allParts m_allNorms m_allClasses : Int64) (m_odd : Int32) (m_boxWide m_boxHigh m_boxStep : Int64) (m_partingMany : Int32) (m_qa m_qb m_la m_lb m_sa m_sb m_ta m_tb : Int64) (m_listed m_tells m_wanted m_found : Int32) (m_bits : Int64) (m_power2 m_rings m_ringA m_ringB m_seedNow : Int32) (m_tape m_has m_keptHas m_first m_second m_keptFirst m_keptSecond m_pa m_pb m_pNorm m_cubed m_isOpen m_signs m_often m_la0 m_lb0 : Nat → Int32) (x : Int32 × Int64 × Int64) (hf : f_X11_are N v1 v2 v3 m_ra m_rb m_has m_first m_second = some x) : kx_MI l yX11_are cX11_are 5 (some .int) 6 174 D T [.ref (h 0), .int v1, .int v2, .int v3] (wM T h m_taped m_states m_ra m_rb m_threes m_primes m_ones m_unit m_allParts m_allNorms m_allClasses m_odd m_boxWide m_boxHigh m_boxStep m_partingMany m_qa m_qb m_la m_lb m_sa m_sb m_ta m_tb m_listed m_tells m_wanted m_found m_bits m_power2 m_rings m_ringA m_ringB m_seedNow m_tape m_has m_keptHas m_first m_second m_keptFirst m_keptSecond m_pa m_pb m_pNorm m_cubed m_isOpen m_signs m_often m_la0 m_lb0) (wM T h m_taped m_states x.2.1 x.2.2 m_threes m_primes m_ones m_unit m_allParts m_allNorms m_allClasses m_odd m_boxWide m_boxHigh m_boxStep m_partingMany m_qa m_qb m_la m_lb m_sa m_sb m_ta m_tb m_listed m_tells m_wanted m_found m_bits m_power2 m_rings m_ringA m_ringB m_seedNow m_tape m_has m_keptHas m_first m_second m_keptFirst m_keptSecond m_pa m_pb m_pNorm m_cubed m_isOpen m_signs m_often m_la0 m_lb0) x.1 := by
  refine kx_ofMI RX11 rfl (plainFor_of_name (x := yX11_are) kpn_X11) rfl ?_
  intro E A H ls _ C X R hl
  have hl : lv_has ls 5 [(0, .ref (h 0)), (1, .int v1), (2, .int v2), (3, .int v3)] := hl
  rw [f_X11_are] at hf
  refine x_iload_n 1 C dX11_are_0 hl 1 rfl rfl ?_
  obtain ⟨y1, hy1, hf⟩ := kx_bind hf
  refine x_callSi 4 C dX11_are_1 X hl kl_X11_85 (c_X11_isDrawer E.2.1 D T  v1  y1 hy1) [] rfl rfl rfl rfl rfl cb_7 rfl (fun H locs X => ?_)
  refine x_if_eq 26 7 C dX11_are_4 rfl rfl hf (fun hf => ?_) (fun hf => ?_)
  · refine x_iconst 27 C dX11_are_26 (-1 : Int32) kv_iconst_m1 rfl ?_
    obtain rfl := Option.some.inj hf
    exact R _ _ _ _ X dX11_are_27
  refine x_iload_n 8 C dX11_are_7 hl 2 rfl rfl ?_
  obtain ⟨y8, hy8, hf⟩ := kx_bind hf
  refine x_callSi 11 C dX11_are_8 X hl kl_X11_85 (c_X11_isDrawer E.2.1 D T  v2  y8 hy8) [] rfl rfl rfl rfl rfl cb_7 rfl (fun H locs X => ?_)
  refine x_if_eq 26 14 C dX11_are_11 rfl rfl hf (fun hf => ?_) (fun hf => ?_)
  · refine x_iconst 27 C dX11_are_26 (-1 : Int32) kv_iconst_m1 rfl ?_
    obtain rfl := Option.some.inj hf
    exact R _ _ _ _ X dX11_are_27
  refine x_iload_n 15 C dX11_are_14 hl 3 rfl rfl ?_
  refine x_i2l 16 C dX11_are_15 rfl ?_
  refine x_lconst 17 C dX11_are_16 (0 : Int64) kv_lconst_0 rfl ?_
  refine x_ldc2_w 20 C dX11_are_17 (2 : Int64) kc_X11_119 rfl ?_
  obtain ⟨y20, hy20, hf⟩ := kx_bind hf
  refine x_callSi 23 C dX11_are_20 X hl kl_X11_77 (c_X11_in E.2.1 D T  (v3).toInt64 (0 : Int64) (2 : Int64)  y20 hy20) [] rfl rfl rfl rfl rfl cb_7 rfl (fun H locs X => ?_)
  refine x_if_ne 28 26 C dX11_are_23 rfl rfl hf (fun hf => ?_) (fun hf => ?_)
  · refine x_aload_n 29 C dX11_are_28 hl 0 rfl rfl ?_
    refine x_get 32 C dX11_are_29 X kf_X11_13 0 rfl rfl rfl ?_
    refine x_iload_n 33 C dX11_are_32 hl 1 rfl rfl ?_
    refine x_zald 34 C dX11_are_33 X 2 rfl hf rfl (fun hf => ?_)
    refine x_if_eq 46 37 C dX11_are_34 rfl rfl hf (fun hf => ?_) (fun hf => ?_)
    · refine x_bipush 48 C dX11_are_46 (-2 : Int32) kv_bipush_m2 rfl ?_
      obtain rfl := Option.some.inj hf
      exact R _ _ _ _ X dX11_are_48
    refine x_aload_n 38 C dX11_are_37 hl 0 rfl rfl ?_
    refine x_get 41 C dX11_are_38 X kf_X11_13 0 rfl rfl rfl ?_
    refine x_iload_n 42 C dX11_are_41 hl 2 rfl rfl ?_
    refine x_zald 43 C dX11_are_42 X 2 rfl hf rfl (fun hf => ?_)
    refine x_if_ne 49 46 C dX11_are_43 rfl rfl hf (fun hf => ?_) (fun hf => ?_)
    · refine x_iload_n 50 C dX11_are_49 hl 3 rfl rfl ?_
      refine x_if_ne 90 53 C dX11_are_50 rfl rfl hf (fun hf => ?_) (fun hf => ?_)
      · refine x_iload_n 91 C dX11_are_90 hl 3 rfl rfl ?_
        refine x_iconst 92 C dX11_are_91 (1 : Int32) kv_iconst_1 rfl ?_
        refine x_icmp_ne 132 95 C dX11_are_92 rfl rfl hf (fun hf => ?_) (fun hf => ?_)
        · refine x_aload_n 133 C dX11_are_132 hl 0 rfl rfl ?_
          refine x_iload_n 134 C dX11_are_133 hl 1 rfl rfl ?_
          obtain ⟨y134, hy134, hf⟩ := kx_bind hf
          refine x_callVi0 137 C dX11_are_134 X hl kl_X11_178 (c_X11_isNothing E.2.1 D T h v1 m_taped m_states m_ra m_rb m_threes m_primes m_ones m_unit m_allParts m_allNorms m_allClasses m_odd m_boxWide m_boxHigh m_boxStep m_partingMany m_qa m_qb m_la m_lb m_sa m_sb m_ta m_tb m_listed m_tells m_wanted m_found m_bits m_power2 m_rings m_ringA m_ringB m_seedNow m_tape m_has m_keptHas m_first m_second m_keptFirst m_keptSecond m_pa m_pb m_pNorm m_cubed m_isOpen m_signs m_often m_la0 m_lb0 y134 hy134) rfl rfl [] rfl rfl rfl rfl rfl rfl (fun H locs X => ?_)
          refine x_if_eq 148 140 C dX11_are_137 rfl rfl hf (fun hf => ?_) (fun hf => ?_)
          · refine x_aload_n 149 C dX11_are_148 hl 0 rfl rfl ?_
            refine x_aload_n 150 C dX11_are_149 hl 0 rfl rfl ?_
            refine x_get 153 C dX11_are_150 X kf_X11_20 0 rfl rfl rfl ?_
            refine x_iload_n 154 C dX11_are_153 hl 1 rfl rfl ?_
            refine x_iald 155 C dX11_are_154 X 4 rfl hf rfl (fun hf => ?_)
            refine x_i2l 156 C dX11_are_155 rfl ?_
            refine x_aload_n 157 C dX11_are_156 hl 0 rfl rfl ?_
            refine x_get 160 C dX11_are_157 X kf_X11_24 0 rfl rfl rfl ?_
            refine x_iload_n 161 C dX11_are_160 hl 1 rfl rfl ?_
            refine x_iald 162 C dX11_are_161 X 5 rfl hf rfl (fun hf => ?_)
            refine x_i2l 163 C dX11_are_162 rfl ?_
            refine x_aload_n 164 C dX11_are_163 hl 0 rfl rfl ?_
            refine x_get 167 C dX11_are_164 X kf_X11_20 0 rfl rfl rfl ?_
            refine x_iload_n 168 C dX11_are_167 hl 2 rfl rfl ?_
            refine x_iald 169 C dX11_are_168 X 4 rfl hf rfl (fun hf => ?_)
            refine x_i2l 170 C dX11_are_169 rfl ?_
            refine x_aload_n 171 C dX11_are_170 hl 0 rfl rfl ?_
            refine x_get 174 C dX11_are_171 X kf_X11_24 0 rfl rfl rfl ?_
            refine x_iload_n 175 C dX11_are_174 hl 2 rfl rfl ?_
            refine x_iald 176 C dX11_are_175 X 5 rfl hf rfl (fun hf => ?_)
            refine x_i2l 177 C dX11_are_176 rfl ?_
            obtain ⟨y177, hy177, hf⟩ := kx_bind hf
            refine x_callVi0 180 C dX11_are_177 X hl kl_X11_198 (c_X11_divides E.2.1 D T h ((m_first (v1).toNatClampNeg)).toInt64 ((m_second (v1).toNatClampNeg)).toInt64 ((m_first (v2).toNatClampNeg)).toInt64 ((m_second (v2).toNatClampNeg)).toInt64 m_taped m_states m_ra m_rb m_threes m_primes m_ones m_unit m_allParts m_allNorms m_allClasses m_odd m_boxWide m_boxHigh m_boxStep m_partingMany m_qa m_qb m_la m_lb m_sa m_sb m_ta m_tb m_listed m_tells m_wanted m_found m_bits m_power2 m_rings m_ringA m_ringB m_seedNow m_tape m_has m_keptHas m_first m_second m_keptFirst m_keptSecond m_pa m_pb m_pNorm m_cubed m_isOpen m_signs m_often m_la0 m_lb0 y177 hy177) rfl rfl [] rfl rfl rfl rfl rfl rfl (fun H locs X => ?_)
            refine x_istore 182 C dX11_are_180 [(4, .int y177.1), (0, .ref (h 0)), (1, .int v1), (2, .int v2), (3, .int v3)] hl rfl rfl rfl (fun ls hl => ?_)
            refine x_iload 184 C dX11_are_182 hl 0 rfl rfl ?_
            refine x_if_eq 191 187 C dX11_are_184 rfl rfl hf (fun hf => ?_) (fun hf => ?_)
            · refine x_iconst 192 C dX11_are_191 (0 : Int32) kv_iconst_0 rfl ?_
              obtain rfl := Option.some.inj hf
              exact R _ _ _ _ X dX11_are_192
            refine x_iconst 188 C dX11_are_187 (1 : Int32) kv_iconst_1 rfl ?_
            refine x_goto 192 C dX11_are_188 rfl ?_
            obtain rfl := Option.some.inj hf
            exact R _ _ _ _ X dX11_are_192
          refine x_aload_n 141 C dX11_are_140 hl 0 rfl rfl ?_
          refine x_iload_n 142 C dX11_are_141 hl 2 rfl rfl ?_
          obtain ⟨y142, hy142, hf⟩ := kx_bind hf
          refine x_callVi0 145 C dX11_are_142 X hl kl_X11_178 (c_X11_isNothing E.2.1 D T h v2 m_taped m_states m_ra m_rb m_threes m_primes m_ones m_unit m_allParts m_allNorms m_allClasses m_odd m_boxWide m_boxHigh m_boxStep m_partingMany m_qa m_qb m_la m_lb m_sa m_sb m_ta m_tb m_listed m_tells m_wanted m_found m_bits m_power2 m_rings m_ringA m_ringB m_seedNow m_tape m_has m_keptHas m_first m_second m_keptFirst m_keptSecond m_pa m_pb m_pNorm m_cubed m_isOpen m_signs m_often m_la0 m_lb0 y142 hy142) rfl rfl [] rfl rfl rfl rfl rfl rfl (fun H locs X => ?_)
          refine x_goto 180 C dX11_are_145 rfl ?_
          refine x_istore 182 C dX11_are_180 [(4, .int y142), (0, .ref (h 0)), (1, .int v1), (2, .int v2), (3, .int v3)] hl rfl rfl rfl (fun ls hl => ?_)
          refine x_iload 184 C dX11_are_182 hl 0 rfl rfl ?_
          refine x_if_eq 191 187 C dX11_are_184 rfl rfl hf (fun hf => ?_) (fun hf => ?_)
          · refine x_iconst 192 C dX11_are_191 (0 : Int32) kv_iconst_0 rfl ?_
            obtain rfl := Option.some.inj hf
            exact R _ _ _ _ X dX11_are_192
          refine x_iconst 188 C dX11_are_187 (1 : Int32) kv_iconst_1 rfl ?_
          refine x_goto 192 C dX11_are_188 rfl ?_
          obtain rfl := Option.some.inj hf
          exact R _ _ _ _ X dX11_are_192
        refine x_aload_n 96 C dX11_are_95 hl 0 rfl rfl ?_
        refine x_aload_n 97 C dX11_are_96 hl 0 rfl rfl ?_
        refine x_get 100 C dX11_are_97 X kf_X11_20 0 rfl rfl rfl ?_
        refine x_iload_n 101 C dX11_are_100 hl 1 rfl rfl ?_
        refine x_iald 102 C dX11_are_101 X 4 rfl hf rfl (fun hf => ?_)
        refine x_i2l 103 C dX11_are_102 rfl ?_
        refine x_aload_n 104 C dX11_are_103 hl 0 rfl rfl ?_
        refine x_get 107 C dX11_are_104 X kf_X11_24 0 rfl rfl rfl ?_
        refine x_iload_n 108 C dX11_are_107 hl 1 rfl rfl ?_
        refine x_iald 109 C dX11_are_108 X 5 rfl hf rfl (fun hf => ?_)
        refine x_i2l 110 C dX11_are_109 rfl ?_
        refine x_aload_n 111 C dX11_are_110 hl 0 rfl rfl ?_
        refine x_get 114 C dX11_are_111 X kf_X11_20 0 rfl rfl rfl ?_
        refine x_iload_n 115 C dX11_are_114 hl 2 rfl rfl ?_
        refine x_iald 116 C dX11_are_115 X 4 rfl hf rfl (fun hf => ?_)
        refine x_i2l 117 C dX11_are_116 rfl ?_
        refine x_aload_n 118 C dX11_are_117 hl 0 rfl rfl ?_
        refine x_get 121 C dX11_are_118 X kf_X11_24 0 rfl rfl rfl ?_
        refine x_iload_n 122 C dX11_are_121 hl 2 rfl rfl ?_
        refine x_iald 123 C dX11_are_122 X 5 rfl hf rfl (fun hf => ?_)
        refine x_i2l 124 C dX11_are_123 rfl ?_
        obtain ⟨y124, hy124, hf⟩ := kx_bind hf
        refine x_callVi0 127 C dX11_are_124 X hl kl_X11_195 (c_X11_arePrimeTo E.2.1 D T h N ((m_first (v1).toNatClampNeg)).toInt64 ((m_second (v1).toNatClampNeg)).toInt64 ((m_first (v2).toNatClampNeg)).toInt64 ((m_second (v2).toNatClampNeg)).toInt64 m_taped m_states m_ra m_rb m_threes m_primes m_ones m_unit m_allParts m_allNorms m_allClasses m_odd m_boxWide m_boxHigh m_boxStep m_partingMany m_qa m_qb m_la m_lb m_sa m_sb m_ta m_tb m_listed m_tells m_wanted m_found m_bits m_power2 m_rings m_ringA m_ringB m_seedNow m_tape m_has m_keptHas m_first m_second m_keptFirst m_keptSecond m_pa m_pb m_pNorm m_cubed m_isOpen m_signs m_often m_la0 m_lb0 y124 hy124) rfl rfl [] rfl rfl rfl rfl rfl rfl (fun H locs X => ?_)
        refine x_istore 129 C dX11_are_127 [(4, .int y124.1), (0, .ref (h 0)), (1, .int v1), (2, .int v2), (3, .int v3)] hl rfl rfl rfl (fun ls hl => ?_)
        refine x_goto 182 C dX11_are_129 rfl ?_
        refine x_iload 184 C dX11_are_182 hl 0 rfl rfl ?_
        refine x_if_eq 191 187 C dX11_are_184 rfl rfl hf (fun hf => ?_) (fun hf => ?_)
        · refine x_iconst 192 C dX11_are_191 (0 : Int32) kv_iconst_0 rfl ?_
          obtain rfl := Option.some.inj hf
          exact R _ _ _ _ X dX11_are_192
        refine x_iconst 188 C dX11_are_187 (1 : Int32) kv_iconst_1 rfl ?_
        refine x_goto 192 C dX11_are_188 rfl ?_
        obtain rfl := Option.some.inj hf
        exact R _ _ _ _ X dX11_are_192
      refine x_aload_n 54 C dX11_are_53 hl 0 rfl rfl ?_
      refine x_aload_n 55 C dX11_are_54 hl 0 rfl rfl ?_
      refine x_get 58 C dX11_are_55 X kf_X11_20 0 rfl rfl rfl ?_
      refine x_iload_n 59 C dX11_are_58 hl 1 rfl rfl ?_
      refine x_iald 60 C dX11_are_59 X 4 rfl hf rfl (fun hf => ?_)
      refine x_i2l 61 C dX11_are_60 rfl ?_
      refine x_aload_n 62 C dX11_are_61 hl 0 rfl rfl ?_
      refine x_get 65 C dX11_are_62 X kf_X11_24 0 rfl rfl rfl ?_
      refine x_iload_n 66 C dX11_are_65 hl 1 rfl rfl ?_
      refine x_iald 67 C dX11_are_66 X 5 rfl hf rfl (fun hf => ?_)
      refine x_i2l 68 C dX11_are_67 rfl ?_
      refine x_aload_n 69 C dX11_are_68 hl 0 rfl rfl ?_
      refine x_get 72 C dX11_are_69 X kf_X11_20 0 rfl rfl rfl ?_
      refine x_iload_n 73 C dX11_are_72 hl 2 rfl rfl ?_
      refine x_iald 74 C dX11_are_73 X 4 rfl hf rfl (fun hf => ?_)
      refine x_i2l 75 C dX11_are_74 rfl ?_
      refine x_aload_n 76 C dX11_are_75 hl 0 rfl rfl ?_
      refine x_get 79 C dX11_are_76 X kf_X11_24 0 rfl rfl rfl ?_
      refine x_iload_n 80 C dX11_are_79 hl 2 rfl rfl ?_
      refine x_iald 81 C dX11_are_80 X 5 rfl hf rfl (fun hf => ?_)
      refine x_i2l 82 C dX11_are_81 rfl ?_
      obtain ⟨y82, hy82, hf⟩ := kx_bind hf
      refine x_callVi0 85 C dX11_are_82 X hl kl_X11_191 (c_X11_areAlike E.2.1 D T h N ((m_first (v1).toNatClampNeg)).toInt64 ((m_second (v1).toNatClampNeg)).toInt64 ((m_first (v2).toNatClampNeg)).toInt64 ((m_second (v2).toNatClampNeg)).toInt64 m_taped m_states m_ra m_rb m_threes m_primes m_ones m_unit m_allParts m_allNorms m_allClasses m_odd m_boxWide m_boxHigh m_boxStep m_partingMany m_qa m_qb m_la m_lb m_sa m_sb m_ta m_tb m_listed m_tells m_wanted m_found m_bits m_power2 m_rings m_ringA m_ringB m_seedNow m_tape m_has m_keptHas m_first m_second m_keptFirst m_keptSecond m_pa m_pb m_pNorm m_cubed m_isOpen m_signs m_often m_la0 m_lb0 y82 hy82) rfl rfl [] rfl rfl rfl rfl rfl rfl (fun H locs X => ?_)
      refine x_istore 87 C dX11_are_85 [(4, .int y82.1), (0, .ref (h 0)), (1, .int v1), (2, .int v2), (3, .int v3)] hl rfl rfl rfl (fun ls hl => ?_)
      refine x_goto 182 C dX11_are_87 rfl ?_
      refine x_iload 184 C dX11_are_182 hl 0 rfl rfl ?_
      refine x_if_eq 191 187 C dX11_are_184 rfl rfl hf (fun hf => ?_) (fun hf => ?_)
      · refine x_iconst 192 C dX11_are_191 (0 : Int32) kv_iconst_0 rfl ?_
        obtain rfl := Option.some.inj hf
        exact R _ _ _ _ X dX11_are_192
      refine x_iconst 188 C dX11_are_187 (1 : Int32) kv_iconst_1 rfl ?_
      refine x_goto 192 C dX11_are_188 rfl ?_
      obtain rfl := Option.some.inj hf
      exact R _ _ _ _ X dX11_are_192
    refine x_bipush 48 C dX11_are_46 (-2 : Int32) kv_bipush_m2 rfl ?_
    obtain rfl := Option.some.inj hf
    exact R _ _ _ _ X dX11_are_48
  refine x_iconst 27 C dX11_are_26 (-1 : Int32) kv_iconst_m1 rfl ?_
  obtain rfl := Option.some.inj hf
  exact R _ _ _ _ X dX11_are_27
set_option maxHeartbeats 4000000 in
set_option maxRecDepth 100000 in
theorem c_X2_load (l : Launch) (D : va_G) (T : KT) (h0 h1 h2 h3 h4 h5 h6 h7 h8 : Nat) (v1 : Int32) (m_count m_threes m_unit : Int32) (m_primeA m_primeB : Nat → Int64) (m_p2_a m_p2_b : Int64) (x : Int64 × Int64) (hf : f_X2_load v1 m_count m_primeA m_primeB m_p2_a m_p2_b = some x) : kx_MV l yX2_load cX2_load 3 none 1 24 D T [.ref h0, .int v1, .ref h8] (w30_X2 T h0 h1 h2 h3 h4 h5 h6 h7 h8 m_count m_threes m_unit m_primeA m_primeB m_p2_a m_p2_b) (w30_X2 T h0 h1 h2 h3 h4 h5 h6 h7 h8 m_count m_threes m_unit m_primeA m_primeB x.1 x.2) := by
  refine kx_ofMV RX2 rfl (plainFor_of_name (x := yX2_load) kpn_X2) rfl ?_
  intro E A H ls _ C X R hl
  have hl : lv_has ls 3 [(0, .ref h0), (1, .int v1), (2, .ref h8)] := hl
  rw [f_X2_load] at hf
  refine x_iload_n 1 C dX2_load_0 hl 1 rfl rfl ?_
  refine x_if_lt 34 4 C dX2_load_1 rfl rfl hf (fun hf => ?_) (fun hf => ?_)
  · obtain rfl := Option.some.inj hf
    exact R _ _ _ _ X dX2_load_34
  refine x_iload_n 5 C dX2_load_4 hl 1 rfl rfl ?_
  refine x_aload_n 6 C dX2_load_5 hl 0 rfl rfl ?_
  refine x_get 9 C dX2_load_6 X kf_X2_39 0 rfl rfl rfl ?_
  refine x_icmp_ge 34 12 C dX2_load_9 rfl rfl hf (fun hf => ?_) (fun hf => ?_)
  · obtain rfl := Option.some.inj hf
    exact R _ _ _ _ X dX2_load_34
  refine x_iload_n 13 C dX2_load_12 hl 1 rfl rfl ?_
  refine x_bipush 15 C dX2_load_13 (32 : Int32) kv_bipush_32 rfl ?_
  refine x_icmp_ge 34 18 C dX2_load_15 rfl rfl hf (fun hf => ?_) (fun hf => ?_)
  · obtain rfl := Option.some.inj hf
    exact R _ _ _ _ X dX2_load_34
  refine x_aload_n 19 C dX2_load_18 hl 2 rfl rfl ?_
  refine x_aload_n 20 C dX2_load_19 hl 0 rfl rfl ?_
  refine x_get 23 C dX2_load_20 X kf_X2_9 0 rfl rfl rfl ?_
  refine x_iload_n 24 C dX2_load_23 hl 1 rfl rfl ?_
  refine x_lald 25 C dX2_load_24 X 1 rfl hf rfl (fun hf => ?_)
  refine x_aload_n 26 C dX2_load_25 hl 0 rfl rfl ?_
  refine x_get 29 C dX2_load_26 X kf_X2_13 0 rfl rfl rfl ?_
  refine x_iload_n 30 C dX2_load_29 hl 1 rfl rfl ?_
  refine x_lald 31 C dX2_load_30 X 2 rfl hf rfl (fun hf => ?_)
  obtain ⟨y31, hy31, hf⟩ := kx_bind hf
  refine x_callVv 34 C dX2_load_31 X hl kl_X2_70 (c_X5_set E.2.1 D T h8 (m_primeA (v1).toNatClampNeg) (m_primeB (v1).toNatClampNeg) m_p2_a m_p2_b y31 hy31) rfl rfl [] rfl rfl rfl rfl rfl cb_74 rfl (fun H locs X => ?_)
  obtain rfl := Option.some.inj hf
  exact R _ _ _ _ X dX2_load_34
set_option maxHeartbeats 4000000 in
set_option maxRecDepth 100000 in
theorem c_X10_part (l : Launch) (D : va_G) (T : KT) (h0 : Nat) (v1 : Int32) (m_p0_a m_p0_b : Int64) (x : Int32) (hf : f_X10_part v1 m_p0_a m_p0_b = some x) : kx_MI l yX10_part cX10_part 2 (some .int) 0 0 D T [.ref h0, .int v1] (w29_ T h0 m_p0_a m_p0_b) (w29_ T h0 m_p0_a m_p0_b) x := by
  refine kx_ofMI RX10 rfl (plainFor_of_name (x := yX10_part) kpn_X10) rfl ?_
  intro E A H ls _ C X R hl
  have hl : lv_has ls 2 [(0, .ref h0), (1, .int v1)] := hl
  rw [f_X10_part] at hf
  refine x_iload_n 1 C dX10_part_0 hl 1 rfl rfl ?_
  refine x_if_ne 11 4 C dX10_part_1 rfl rfl hf (fun hf => ?_) (fun hf => ?_)
  · refine x_aload_n 12 C dX10_part_11 hl 0 rfl rfl ?_
    refine x_get 15 C dX10_part_12 X kf_X10_149 0 rfl rfl rfl ?_
    refine x_l2i 16 C dX10_part_15 rfl ?_
    obtain rfl := Option.some.inj hf
    exact R _ _ _ _ X dX10_part_16
  refine x_aload_n 5 C dX10_part_4 hl 0 rfl rfl ?_
  refine x_get 8 C dX10_part_5 X kf_X10_145 0 rfl rfl rfl ?_
  refine x_goto 15 C dX10_part_8 rfl ?_
  refine x_l2i 16 C dX10_part_15 rfl ?_
  obtain rfl := Option.some.inj hf
  exact R _ _ _ _ X dX10_part_16
set_option maxHeartbeats 4000000 in
set_option maxRecDepth 100000 in
theorem c_X10_partOrNorm (l : Launch) (D : va_G) (T : KT) (h0 : Nat) (v1 : Int32) (m_p0_a m_p0_b : Int64) (x : Int32) (hf : f_X10_partOrNorm v1 m_p0_a m_p0_b = some x) : kx_MI l yX10_partOrNorm cX10_partOrNorm 2 (some .int) 1 21 D T [.ref h0, .int v1] (w29_ T h0 m_p0_a m_p0_b) (w29_ T h0 m_p0_a m_p0_b) x := by
  refine kx_ofMI RX10 rfl (plainFor_of_name (x := yX10_partOrNorm) kpn_X10) rfl ?_
  intro E A H ls _ C X R hl
  have hl : lv_has ls 2 [(0, .ref h0), (1, .int v1)] := hl
  rw [f_X10_partOrNorm] at hf
  refine x_iload_n 1 C dX10_partOrNorm_0 hl 1 rfl rfl ?_
  refine x_iconst 2 C dX10_partOrNorm_1 (2 : Int32) kv_iconst_2 rfl ?_
  refine x_icmp_ne 13 5 C dX10_partOrNorm_2 rfl rfl hf (fun hf => ?_) (fun hf => ?_)
  · refine x_aload_n 14 C dX10_partOrNorm_13 hl 0 rfl rfl ?_
    refine x_iload_n 15 C dX10_partOrNorm_14 hl 1 rfl rfl ?_
    obtain ⟨y15, hy15, hf⟩ := kx_bind hf
    refine x_callSi0 18 C dX10_partOrNorm_15 X hl kl_X10_273 (c_X10_part E.2.1 D T h0 v1 m_p0_a m_p0_b y15 hy15) [] rfl rfl rfl rfl rfl rfl (fun H locs X => ?_)
    obtain rfl := Option.some.inj hf
    exact R _ _ _ _ X dX10_partOrNorm_18
  refine x_aload_n 6 C dX10_partOrNorm_5 hl 0 rfl rfl ?_
  obtain ⟨y6, hy6, hf⟩ := kx_bind hf
  refine x_callVl 9 C dX10_partOrNorm_6 X hl kl_X10_152 (c_X5_norm E.2.1 D T h0  m_p0_a m_p0_b y6 hy6) rfl rfl [] rfl rfl rfl rfl rfl cb_75 rfl (fun H locs X => ?_)
  refine x_l2i 10 C dX10_partOrNorm_9 rfl ?_
  refine x_goto 18 C dX10_partOrNorm_10 rfl ?_
  obtain rfl := Option.some.inj hf
  exact R _ _ _ _ X dX10_partOrNorm_18
set_option maxHeartbeats 4000000 in
set_option maxRecDepth 100000 in
theorem c_X10_written (l : Launch) (D : va_G) (T : KT) (h : Nat → Nat) (N : Nat) (v1 v2 v3 : Int32) (m_drawers_full m_drawers_kept : Int32) (m_drawers_partA m_drawers_partB m_drawers_keptA m_drawers_keptB m_drawers_keptFull : Nat → Int32) (m_tape_size m_tape_plain m_tape_omegas m_tape_end m_tape_place m_tape_plainTold m_tape_omegasTold : Int32) (m_tape_bytes : Nat → Int32) (m_euclid_count : Int32) (m_euclid_last_a m_euclid_last_b m_euclid_lastOfFirst_a m_euclid_lastOfFirst_b m_euclid_lastOfSecond_a m_euclid_lastOfSecond_b m_euclid_next_a m_euclid_next_b m_euclid_nextOfFirst_a m_euclid_nextOfFirst_b m_euclid_nextOfSecond_a m_euclid_nextOfSecond_b m_euclid_q_a m_euclid_q_b : Int64) (m_euclid_quotientA m_euclid_quotientB : Nat → Int64) (m_modulus_step m_modulus_width m_modulus_slant m_modulus_square_a m_modulus_square_b : Int64) (m_factors_count m_factors_threes m_factors_unit : Int32) (m_factors_primeA m_factors_primeB m_factors_norms : Nat → Int64) (m_factors_euclid_count : Int32) (m_factors_euclid_last_a m_factors_euclid_last_b m_factors_euclid_lastOfFirst_a m_factors_euclid_lastOfFirst_b m_factors_euclid_lastOfSecond_a m_factors_euclid_lastOfSecond_b m_factors_euclid_next_a m_factors_euclid_next_b m_factors_euclid_nextOfFirst_a m_factors_euclid_nextOfFirst_b m_factors_euclid_nextOfSecond_a m_factors_euclid_nextOfSecond_b m_factors_euclid_q_a m_factors_euclid_q_b : Int64) (m_factors_euclid_quotientA m_factors_euclid_quotientB : Nat → Int64) (m_factors_left_a m_factors_left_b m_factors_found_a m_factors_found_b m_factors_product_a m_factors_product_b : Int64) (m_primes_count : Int32) (m_primes_primeA m_primes_primeB : Nat → Int32) (m_primes_found_a m_primes_found_b : Int64) (m_rings_foundA m_rings_foundB m_rings_all m_rings_mostOfOneRow m_letters_count : Int32) (m_letters_bytes : Nat → Int32) (m_one_a m_one_b m_two_a m_two_b m_three_a m_three_b m_four_a m_four_b m_out_a m_out_b m_spare_a m_spare_b : Int64) (m_marks : Nat → Int32) (x : Int32 × Int32 × Int32 × Int32 × (Nat → Int64) × (Nat → Int64) × (Nat → Int64) × Int32 × Int64 × Int64 × Int64 × Int64 × Int64 × Int64 × Int64 × Int64 × Int64 × Int64 × Int64 × Int64 × Int64 × Int64 × (Nat → Int64) × (Nat → Int64) × Int64 × Int64 × Int64 × Int64 × Int64 × Int64 × Int64 × Int64 × Int64 × Int64) (hf : f_X10_written N v1 v2 v3 m_drawers_full m_drawers_partA m_drawers_partB m_factors_count m_factors_threes m_factors_unit m_factors_primeA m_factors_primeB m_factors_norms m_factors_euclid_count m_factors_euclid_last_a m_factors_euclid_last_b m_factors_euclid_lastOfFirst_a m_factors_euclid_lastOfFirst_b m_factors_euclid_lastOfSecond_a m_factors_euclid_lastOfSecond_b m_factors_euclid_next_a m_factors_euclid_next_b m_factors_euclid_nextOfFirst_a m_factors_euclid_nextOfFirst_b m_factors_euclid_nextOfSecond_a m_factors_euclid_nextOfSecond_b m_factors_euclid_q_a m_factors_euclid_q_b m_factors_euclid_quotientA m_factors_euclid_quotientB m_factors_left_a m_factors_left_b m_factors_found_a m_factors_found_b m_factors_product_a m_factors_product_b m_one_a m_one_b m_out_a m_out_b = some x) : kx_MI l yX10_written cX10_written 4 (some .int) 6 146 D T [.ref (h 0), .int v1, .int v2, .int v3] (wC T h m_drawers_full m_drawers_kept m_drawers_partA m_drawers_partB m_drawers_keptA m_drawers_keptB m_drawers_keptFull m_tape_size m_tape_plain m_tape_omegas m_tape_end m_tape_place m_tape_plainTold m_tape_omegasTold m_tape_bytes m_euclid_count m_euclid_last_a m_euclid_last_b m_euclid_lastOfFirst_a m_euclid_lastOfFirst_b m_euclid_lastOfSecond_a m_euclid_lastOfSecond_b m_euclid_next_a m_euclid_next_b m_euclid_nextOfFirst_a m_euclid_nextOfFirst_b m_euclid_nextOfSecond_a m_euclid_nextOfSecond_b m_euclid_q_a m_euclid_q_b m_euclid_quotientA m_euclid_quotientB m_modulus_step m_modulus_width m_modulus_slant m_modulus_square_a m_modulus_square_b m_factors_count m_factors_threes m_factors_unit m_factors_primeA m_factors_primeB m_factors_norms m_factors_euclid_count m_factors_euclid_last_a m_factors_euclid_last_b m_factors_euclid_lastOfFirst_a m_factors_euclid_lastOfFirst_b m_factors_euclid_lastOfSecond_a m_factors_euclid_lastOfSecond_b m_factors_euclid_next_a m_factors_euclid_next_b m_factors_euclid_nextOfFirst_a m_factors_euclid_nextOfFirst_b m_factors_euclid_nextOfSecond_a m_factors_euclid_nextOfSecond_b m_factors_euclid_q_a m_factors_euclid_q_b m_factors_euclid_quotientA m_factors_euclid_quotientB m_factors_left_a m_factors_left_b m_factors_found_a m_factors_found_b m_factors_product_a m_factors_product_b m_primes_count m_primes_primeA m_primes_primeB m_primes_found_a m_primes_found_b m_rings_foundA m_rings_foundB m_rings_all m_rings_mostOfOneRow m_letters_count m_letters_bytes m_one_a m_one_b m_two_a m_two_b m_three_a m_three_b m_four_a m_four_b m_out_a m_out_b m_spare_a m_spare_b m_marks) (wC T h m_drawers_full m_drawers_kept m_drawers_partA m_drawers_partB m_drawers_keptA m_drawers_keptB m_drawers_keptFull m_tape_size m_tape_plain m_tape_omegas m_tape_end m_tape_place m_tape_plainTold m_tape_omegasTold m_tape_bytes m_euclid_count m_euclid_last_a m_euclid_last_b m_euclid_lastOfFirst_a m_euclid_lastOfFirst_b m_euclid_lastOfSecond_a m_euclid_lastOfSecond_b m_euclid_next_a m_euclid_next_b m_euclid_nextOfFirst_a m_euclid_nextOfFirst_b m_euclid_nextOfSecond_a m_euclid_nextOfSecond_b m_euclid_q_a m_euclid_q_b m_euclid_quotientA m_euclid_quotientB m_modulus_step m_modulus_width m_modulus_slant m_modulus_square_a m_modulus_square_b x.2.1 x.2.2.1 x.2.2.2.1 x.2.2.2.2.1 x.2.2.2.2.2.1 x.2.2.2.2.2.2.1 x.2.2.2.2.2.2.2.1 x.2.2.2.2.2.2.2.2.1 x.2.2.2.2.2.2.2.2.2.1 x.2.2.2.2.2.2.2.2.2.2.1 x.2.2.2.2.2.2.2.2.2.2.2.1 x.2.2.2.2.2.2.2.2.2.2.2.2.1 x.2.2.2.2.2.2.2.2.2.2.2.2.2.1 x.2.2.2.2.2.2.2.2.2.2.2.2.2.2.1 x.2.2.2.2.2.2.2.2.2.2.2.2.2.2.2.1 x.2.2.2.2.2.2.2.2.2.2.2.2.2.2.2.2.1 x.2.2.2.2.2.2.2.2.2.2.2.2.2.2.2.2.2.1 x.2.2.2.2.2.2.2.2.2.2.2.2.2.2.2.2.2.2.1 x.2.2.2.2.2.2.2.2.2.2.2.2.2.2.2.2.2.2.2.1 x.2.2.2.2.2.2.2.2.2.2.2.2.2.2.2.2.2.2.2.2.1 x.2.2.2.2.2.2.2.2.2.2.2.2.2.2.2.2.2.2.2.2.2.1 x.2.2.2.2.2.2.2.2.2.2.2.2.2.2.2.2.2.2.2.2.2.2.1 x.2.2.2.2.2.2.2.2.2.2.2.2.2.2.2.2.2.2.2.2.2.2.2.1 x.2.2.2.2.2.2.2.2.2.2.2.2.2.2.2.2.2.2.2.2.2.2.2.2.1 x.2.2.2.2.2.2.2.2.2.2.2.2.2.2.2.2.2.2.2.2.2.2.2.2.2.1 x.2.2.2.2.2.2.2.2.2.2.2.2.2.2.2.2.2.2.2.2.2.2.2.2.2.2.1 x.2.2.2.2.2.2.2.2.2.2.2.2.2.2.2.2.2.2.2.2.2.2.2.2.2.2.2.1 x.2.2.2.2.2.2.2.2.2.2.2.2.2.2.2.2.2.2.2.2.2.2.2.2.2.2.2.2.1 x.2.2.2.2.2.2.2.2.2.2.2.2.2.2.2.2.2.2.2.2.2.2.2.2.2.2.2.2.2.1 m_primes_count m_primes_primeA m_primes_primeB m_primes_found_a m_primes_found_b m_rings_foundA m_rings_foundB m_rings_all m_rings_mostOfOneRow m_letters_count m_letters_bytes x.2.2.2.2.2.2.2.2.2.2.2.2.2.2.2.2.2.2.2.2.2.2.2.2.2.2.2.2.2.2.1 x.2.2.2.2.2.2.2.2.2.2.2.2.2.2.2.2.2.2.2.2.2.2.2.2.2.2.2.2.2.2.2.1 m_two_a m_two_b m_three_a m_three_b m_four_a m_four_b x.2.2.2.2.2.2.2.2.2.2.2.2.2.2.2.2.2.2.2.2.2.2.2.2.2.2.2.2.2.2.2.2.1 x.2.2.2.2.2.2.2.2.2.2.2.2.2.2.2.2.2.2.2.2.2.2.2.2.2.2.2.2.2.2.2.2.2 m_spare_a m_spare_b m_marks) x.1 := by
  refine kx_ofMI RX10 rfl (plainFor_of_name (x := yX10_written) kpn_X10) rfl ?_
  intro E A H ls _ C X R hl
  have hl : lv_has ls 4 [(0, .ref (h 0)), (1, .int v1), (2, .int v2), (3, .int v3)] := hl
  rw [f_X10_written] at hf
  refine x_aload_n 1 C dX10_written_0 hl 0 rfl rfl ?_
  refine x_get 4 C dX10_written_1 X kf_X10_12 0 rfl rfl rfl ?_
  refine x_iload_n 5 C dX10_written_4 hl 1 rfl rfl ?_
  obtain ⟨y5, hy5, hf⟩ := kx_bind hf
  refine x_callVi 8 C dX10_written_5 X hl kl_X10_130 (c_X0_has E.2.1 D T (h 1) (h 2) (h 3) (h 4) (h 5) (h 6) v1 m_drawers_full m_drawers_kept y5 hy5) rfl rfl [] rfl rfl rfl rfl rfl cb_9 rfl (fun H locs X => ?_)
  refine x_if_eq 25 11 C dX10_written_8 rfl rfl hf (fun hf => ?_) (fun hf => ?_)
  · refine x_ldc 27 C dX10_written_25 (-2147483648 : Int32) kc_X10_140 rfl ?_
    obtain rfl := Option.some.inj hf
    exact R _ _ _ _ X dX10_written_27
  refine x_iload_n 12 C dX10_written_11 hl 2 rfl rfl ?_
  refine x_iconst 13 C dX10_written_12 (-1 : Int32) kv_iconst_m1 rfl ?_
  refine x_icmp_lt 25 16 C dX10_written_13 rfl rfl hf (fun hf => ?_) (fun hf => ?_)
  · refine x_ldc 27 C dX10_written_25 (-2147483648 : Int32) kc_X10_140 rfl ?_
    obtain rfl := Option.some.inj hf
    exact R _ _ _ _ X dX10_written_27
  refine x_iload_n 17 C dX10_written_16 hl 3 rfl rfl ?_
  refine x_if_lt 25 20 C dX10_written_17 rfl rfl hf (fun hf => ?_) (fun hf => ?_)
  · refine x_ldc 27 C dX10_written_25 (-2147483648 : Int32) kc_X10_140 rfl ?_
    obtain rfl := Option.some.inj hf
    exact R _ _ _ _ X dX10_written_27
  refine x_iload_n 21 C dX10_written_20 hl 3 rfl rfl ?_
  refine x_iconst 22 C dX10_written_21 (2 : Int32) kv_iconst_2 rfl ?_
  refine x_icmp_le 28 25 C dX10_written_22 rfl rfl hf (fun hf => ?_) (fun hf => ?_)
  · refine x_aload_n 29 C dX10_written_28 hl 0 rfl rfl ?_
    refine x_get 32 C dX10_written_29 X kf_X10_12 0 rfl rfl rfl ?_
    refine x_iload_n 33 C dX10_written_32 hl 1 rfl rfl ?_
    refine x_aload_n 34 C dX10_written_33 hl 0 rfl rfl ?_
    refine x_get 37 C dX10_written_34 X kf_X10_70 0 rfl rfl rfl ?_
    obtain ⟨y37, hy37, hf⟩ := kx_bind hf
    refine x_callVv 40 C dX10_written_37 X hl kl_X10_141 (c_X0_load E.2.1 D T (h 1) (h 2) (h 3) (h 4) (h 5) (h 6) (h 45) v1 m_drawers_full m_drawers_kept m_drawers_partA m_drawers_partB m_one_a m_one_b y37 hy37) rfl rfl [] rfl rfl rfl rfl rfl cb_11 rfl (fun H locs X => ?_)
    refine x_aload_n 41 C dX10_written_40 hl 0 rfl rfl ?_
    refine x_get 44 C dX10_written_41 X kf_X10_70 0 rfl rfl rfl ?_
    obtain ⟨y44, hy44, hf⟩ := kx_bind hf
    refine x_callVi 47 C dX10_written_44 X hl kl_X10_170 (c_X5_isNought E.2.1 D T (h 45)  y37.1 y37.2 y44 hy44) rfl rfl [] rfl rfl rfl rfl rfl cb_12 rfl (fun H locs X => ?_)
    refine x_if_eq 53 50 C dX10_written_47 rfl rfl hf (fun hf => ?_) (fun hf => ?_)
    · refine x_aload_n 54 C dX10_written_53 hl 0 rfl rfl ?_
      refine x_get 57 C dX10_written_54 X kf_X10_42 0 rfl rfl rfl ?_
      refine x_aload_n 58 C dX10_written_57 hl 0 rfl rfl ?_
      refine x_get 61 C dX10_written_58 X kf_X10_70 0 rfl rfl rfl ?_
      obtain ⟨y61, hy61, hf⟩ := kx_bind hf
      refine x_callVv 64 C dX10_written_61 X hl kl_X10_228 (c_X2_spell E.2.1 D T (h 21) (h 22) (h 23) (h 24) (h 25) (h 26) (h 27) (h 28) (h 29) (h 30) (h 31) (h 32) (h 33) (h 34) (h 35) (h 36) (h 37) (h 45) N  m_factors_count m_factors_threes m_factors_unit m_factors_primeA m_factors_primeB m_factors_norms m_factors_euclid_count m_factors_euclid_last_a m_factors_euclid_last_b m_factors_euclid_lastOfFirst_a m_factors_euclid_lastOfFirst_b m_factors_euclid_lastOfSecond_a m_factors_euclid_lastOfSecond_b m_factors_euclid_next_a m_factors_euclid_next_b m_factors_euclid_nextOfFirst_a m_factors_euclid_nextOfFirst_b m_factors_euclid_nextOfSecond_a m_factors_euclid_nextOfSecond_b m_factors_euclid_q_a m_factors_euclid_q_b m_factors_euclid_quotientA m_factors_euclid_quotientB m_factors_left_a m_factors_left_b m_factors_found_a m_factors_found_b m_factors_product_a m_factors_product_b y37.1 y37.2 y61 hy61) rfl rfl [] rfl rfl rfl rfl rfl cb_16 rfl (fun H locs X => ?_)
      refine x_iload_n 65 C dX10_written_64 hl 2 rfl rfl ?_
      refine x_iconst 66 C dX10_written_65 (-1 : Int32) kv_iconst_m1 rfl ?_
      refine x_icmp_ne 120 69 C dX10_written_66 rfl rfl hf (fun hf => ?_) (fun hf => ?_)
      · refine x_iload_n 121 C dX10_written_120 hl 2 rfl rfl ?_
        refine x_aload_n 122 C dX10_written_121 hl 0 rfl rfl ?_
        refine x_get 125 C dX10_written_122 X kf_X10_42 0 rfl rfl rfl ?_
        refine x_get 128 C dX10_written_125 X kf_X10_231 21 rfl rfl rfl ?_
        refine x_icmp_lt 134 131 C dX10_written_128 rfl rfl hf (fun hf => ?_) (fun hf => ?_)
        · refine x_aload_n 135 C dX10_written_134 hl 0 rfl rfl ?_
          refine x_get 138 C dX10_written_135 X kf_X10_42 0 rfl rfl rfl ?_
          refine x_iload_n 139 C dX10_written_138 hl 2 rfl rfl ?_
          refine x_aload_n 140 C dX10_written_139 hl 0 rfl rfl ?_
          refine x_get 143 C dX10_written_140 X kf_X10_83 0 rfl rfl rfl ?_
          obtain ⟨y143, hy143, hf⟩ := kx_bind hf
          refine x_callVv 146 C dX10_written_143 X hl kl_X10_240 (c_X2_load E.2.1 D T (h 21) (h 22) (h 23) (h 24) (h 25) (h 35) (h 36) (h 37) (h 49) v2 y61.1 y61.2.1 y61.2.2.1 y61.2.2.2.1 y61.2.2.2.2.1 m_out_a m_out_b y143 hy143) rfl rfl [] rfl rfl rfl rfl rfl cb_72 rfl (fun H locs X => ?_)
          refine x_aload_n 147 C dX10_written_146 hl 0 rfl rfl ?_
          refine x_get 150 C dX10_written_147 X kf_X10_83 0 rfl rfl rfl ?_
          refine x_iload_n 151 C dX10_written_150 hl 3 rfl rfl ?_
          obtain ⟨y151, hy151, hf⟩ := kx_bind hf
          refine x_callSi 154 C dX10_written_151 X hl kl_X10_241 (c_X10_partOrNorm E.2.1 D T (h 49) v3 y143.1 y143.2 y151 hy151) [] rfl rfl rfl rfl rfl cb_73 rfl (fun H locs X => ?_)
          obtain rfl := Option.some.inj hf
          exact R _ _ _ _ X dX10_written_154
        refine x_ldc 133 C dX10_written_131 (-2147483648 : Int32) kc_X10_140 rfl ?_
        obtain rfl := Option.some.inj hf
        exact R _ _ _ _ X dX10_written_133
      refine x_iload_n 70 C dX10_written_69 hl 3 rfl rfl ?_
      refine kx_sw hf (fun hs0 hf => ?_) (fun hs0 hf => ?_)
      · refine x_lookup (off := 26) 96 C dX10_written_70 (by decide) (by rw [hs0]; decide) rfl ?_
        refine x_aload_n 97 C dX10_written_96 hl 0 rfl rfl ?_
        refine x_get 100 C dX10_written_97 X kf_X10_42 0 rfl rfl rfl ?_
        refine x_get 103 C dX10_written_100 X kf_X10_231 21 rfl rfl rfl ?_
        obtain rfl := Option.some.inj hf
        exact R _ _ _ _ X dX10_written_103
      refine kx_sw hf (fun hs1 hf => ?_) (fun hs1 hf => ?_)
      · refine x_lookup (off := 34) 104 C dX10_written_70 (by decide) (by rw [hs1]; decide) rfl ?_
        refine x_aload_n 105 C dX10_written_104 hl 0 rfl rfl ?_
        refine x_get 108 C dX10_written_105 X kf_X10_42 0 rfl rfl rfl ?_
        refine x_get 111 C dX10_written_108 X kf_X10_234 21 rfl rfl rfl ?_
        obtain rfl := Option.some.inj hf
        exact R _ _ _ _ X dX10_written_111
      refine x_lookup (off := 42) 112 C dX10_written_70 (by decide) (by rw [lv_osw hs0 (by decide), lv_osw hs1 (by decide)]; rfl) rfl ?_
      refine x_aload_n 113 C dX10_written_112 hl 0 rfl rfl ?_
      refine x_get 116 C dX10_written_113 X kf_X10_42 0 rfl rfl rfl ?_
      refine x_get 119 C dX10_written_116 X kf_X10_237 21 rfl rfl rfl ?_
      obtain rfl := Option.some.inj hf
      exact R _ _ _ _ X dX10_written_119
    refine x_ldc 52 C dX10_written_50 (-2147483648 : Int32) kc_X10_140 rfl ?_
    obtain rfl := Option.some.inj hf
    exact R _ _ _ _ X dX10_written_52
  refine x_ldc 27 C dX10_written_25 (-2147483648 : Int32) kc_X10_140 rfl ?_
  obtain rfl := Option.some.inj hf
  exact R _ _ _ _ X dX10_written_27
set_option maxHeartbeats 4000000 in
set_option maxRecDepth 100000 in
theorem w_X11_notes_58 {E : KE} {A : Nat → Prop} {D : va_G} {T : KT} (h : Nat → Nat) (C : kx_C E cX11_notes 5 none RX11 2 46 D T) (N : Nat) (x : Int32 × (Nat → Int32) × (Nat → Int32) × (Nat → Int32)) (m_taped m_states : Int32) (m_ra m_rb : Int64) (m_threes m_ones m_unit : Int32) (m_allParts m_allNorms m_allClasses : Int64) (m_odd : Int32) (m_boxWide m_boxHigh m_boxStep : Int64) (m_partingMany : Int32) (m_qa m_qb m_la m_lb m_sa m_sb m_ta m_tb : Int64) (m_listed m_tells m_wanted m_found : Int32) (m_bits : Int64) (m_power2 m_rings m_ringA m_ringB m_seedNow : Int32) (m_tape m_has m_keptHas m_first m_second m_keptFirst m_keptSecond m_cubed m_isOpen m_signs m_often m_la0 m_lb0 : Nat → Int32) (R : kx_RV E cX11_notes D A (wM T h m_taped m_states m_ra m_rb m_threes x.1 m_ones m_unit m_allParts m_allNorms m_allClasses m_odd m_boxWide m_boxHigh m_boxStep m_partingMany m_qa m_qb m_la m_lb m_sa m_sb m_ta m_tb m_listed m_tells m_wanted m_found m_bits m_power2 m_rings m_ringA m_ringB m_seedNow m_tape m_has m_keptHas m_first m_second m_keptFirst m_keptSecond x.2.1 x.2.2.1 x.2.2.2 m_cubed m_isOpen m_signs m_often m_la0 m_lb0)) (k14 : Int32 → Int32 → Int32 → Int32 → Int32 → (Nat → Int32) → (Nat → Int32) → (Nat → Int32) → Option (Int32 × (Nat → Int32) × (Nat → Int32) × (Nat → Int32))) (hk14 : ∀ (m_primes : Int32) (m_pa m_pb m_pNorm : Nat → Int32) (v1 v2 v3 v4 : Int32) (H : Heap) (locs : List Loc) (ls : Array Slot), kx_H E D A H locs (wM T h m_taped m_states m_ra m_rb m_threes m_primes m_ones m_unit m_allParts m_allNorms m_allClasses m_odd m_boxWide m_boxHigh m_boxStep m_partingMany m_qa m_qb m_la m_lb m_sa m_sb m_ta m_tb m_listed m_tells m_wanted m_found m_bits m_power2 m_rings m_ringA m_ringB m_seedNow m_tape m_has m_keptHas m_first m_second m_keptFirst m_keptSecond m_pa m_pb m_pNorm m_cubed m_isOpen m_signs m_often m_la0 m_lb0) → lv_has ls 5 [(0, .ref (h 0)), (1, .int v1), (2, .int v2), (3, .int v3), (4, .int v4)] → k14 v1 v2 v3 v4 m_primes m_pa m_pb m_pNorm = some x → kx_W E H locs 14 ls []) : ∀ (m_primes : Int32) (m_pa m_pb m_pNorm : Nat → Int32) (v1 v2 v3 v4 : Int32) (H : Heap) (locs : List Loc) (ls : Array Slot), kx_H E D A H locs (wM T h m_taped m_states m_ra m_rb m_threes m_primes m_ones m_unit m_allParts m_allNorms m_allClasses m_odd m_boxWide m_boxHigh m_boxStep m_partingMany m_qa m_qb m_la m_lb m_sa m_sb m_ta m_tb m_listed m_tells m_wanted m_found m_bits m_power2 m_rings m_ringA m_ringB m_seedNow m_tape m_has m_keptHas m_first m_second m_keptFirst m_keptSecond m_pa m_pb m_pNorm m_cubed m_isOpen m_signs m_often m_la0 m_lb0) → lv_has ls 5 [(0, .ref (h 0)), (1, .int v1), (2, .int v2), (3, .int v3), (4, .int v4)] → f_X11_notes_58 N k14 v1 v2 v3 v4 m_primes m_pa m_pb m_pNorm = some x → kx_W E H locs 58 ls [] := by
  intro m_primes m_pa m_pb m_pNorm v1 v2 v3 v4 H locs ls X hl hf
  rw [f_X11_notes_58] at hf
  refine x_aload_n 59 C dX11_notes_58 hl 0 rfl rfl ?_
  refine x_get 62 C dX11_notes_59 X kf_X11_33 0 rfl rfl rfl ?_
  refine x_iload 64 C dX11_notes_62 hl 4 rfl rfl ?_
  refine x_aload_n 65 C dX11_notes_64 hl 0 rfl rfl ?_
  refine x_get 68 C dX11_notes_65 X kf_X11_33 0 rfl rfl rfl ?_
  refine x_iload 70 C dX11_notes_68 hl 4 rfl rfl ?_
  refine x_iconst 71 C dX11_notes_70 (1 : Int32) kv_iconst_1 rfl ?_
  refine x_isub 72 C dX11_notes_71 rfl ?_
  refine x_iald 73 C dX11_notes_72 X 8 rfl hf rfl (fun hf => ?_)
  refine x_iast 74 C dX11_notes_73 X 8 rfl (wM T h m_taped m_states m_ra m_rb m_threes m_primes m_ones m_unit m_allParts m_allNorms m_allClasses m_odd m_boxWide m_boxHigh m_boxStep m_partingMany m_qa m_qb m_la m_lb m_sa m_sb m_ta m_tb m_listed m_tells m_wanted m_found m_bits m_power2 m_rings m_ringA m_ringB m_seedNow m_tape m_has m_keptHas m_first m_second m_keptFirst m_keptSecond (upd m_pa (v4).toNatClampNeg (m_pa ((v4 - (1 : Int32))).toNatClampNeg)) m_pb m_pNorm m_cubed m_isOpen m_signs m_often m_la0 m_lb0) rfl hf rfl (fun H locs X hf => ?_)
  refine x_aload_n 75 C dX11_notes_74 hl 0 rfl rfl ?_
  refine x_get 78 C dX11_notes_75 X kf_X11_36 0 rfl rfl rfl ?_
  refine x_iload 80 C dX11_notes_78 hl 4 rfl rfl ?_
  refine x_aload_n 81 C dX11_notes_80 hl 0 rfl rfl ?_
  refine x_get 84 C dX11_notes_81 X kf_X11_36 0 rfl rfl rfl ?_
  refine x_iload 86 C dX11_notes_84 hl 4 rfl rfl ?_
  refine x_iconst 87 C dX11_notes_86 (1 : Int32) kv_iconst_1 rfl ?_
  refine x_isub 88 C dX11_notes_87 rfl ?_
  refine x_iald 89 C dX11_notes_88 X 9 rfl hf rfl (fun hf => ?_)
  refine x_iast 90 C dX11_notes_89 X 9 rfl (wM T h m_taped m_states m_ra m_rb m_threes m_primes m_ones m_unit m_allParts m_allNorms m_allClasses m_odd m_boxWide m_boxHigh m_boxStep m_partingMany m_qa m_qb m_la m_lb m_sa m_sb m_ta m_tb m_listed m_tells m_wanted m_found m_bits m_power2 m_rings m_ringA m_ringB m_seedNow m_tape m_has m_keptHas m_first m_second m_keptFirst m_keptSecond (upd m_pa (v4).toNatClampNeg (m_pa ((v4 - (1 : Int32))).toNatClampNeg)) (upd m_pb (v4).toNatClampNeg (m_pb ((v4 - (1 : Int32))).toNatClampNeg)) m_pNorm m_cubed m_isOpen m_signs m_often m_la0 m_lb0) rfl hf rfl (fun H locs X hf => ?_)
  refine x_aload_n 91 C dX11_notes_90 hl 0 rfl rfl ?_
  refine x_get 94 C dX11_notes_91 X kf_X11_39 0 rfl rfl rfl ?_
  refine x_iload 96 C dX11_notes_94 hl 4 rfl rfl ?_
  refine x_aload_n 97 C dX11_notes_96 hl 0 rfl rfl ?_
  refine x_get 100 C dX11_notes_97 X kf_X11_39 0 rfl rfl rfl ?_
  refine x_iload 102 C dX11_notes_100 hl 4 rfl rfl ?_
  refine x_iconst 103 C dX11_notes_102 (1 : Int32) kv_iconst_1 rfl ?_
  refine x_isub 104 C dX11_notes_103 rfl ?_
  refine x_iald 105 C dX11_notes_104 X 10 rfl hf rfl (fun hf => ?_)
  refine x_iast 106 C dX11_notes_105 X 10 rfl (wM T h m_taped m_states m_ra m_rb m_threes m_primes m_ones m_unit m_allParts m_allNorms m_allClasses m_odd m_boxWide m_boxHigh m_boxStep m_partingMany m_qa m_qb m_la m_lb m_sa m_sb m_ta m_tb m_listed m_tells m_wanted m_found m_bits m_power2 m_rings m_ringA m_ringB m_seedNow m_tape m_has m_keptHas m_first m_second m_keptFirst m_keptSecond (upd m_pa (v4).toNatClampNeg (m_pa ((v4 - (1 : Int32))).toNatClampNeg)) (upd m_pb (v4).toNatClampNeg (m_pb ((v4 - (1 : Int32))).toNatClampNeg)) (upd m_pNorm (v4).toNatClampNeg (m_pNorm ((v4 - (1 : Int32))).toNatClampNeg)) m_cubed m_isOpen m_signs m_often m_la0 m_lb0) rfl hf rfl (fun H locs X hf => ?_)
  refine x_iload 108 C dX11_notes_106 hl 4 rfl rfl ?_
  refine x_iconst 109 C dX11_notes_108 (1 : Int32) kv_iconst_1 rfl ?_
  refine x_isub 110 C dX11_notes_109 rfl ?_
  refine x_istore 112 C dX11_notes_110 [(4, .int (v4 - (1 : Int32))), (0, .ref (h 0)), (1, .int v1), (2, .int v2), (3, .int v3)] hl rfl rfl rfl (fun ls hl => ?_)
  refine x_goto 14 C dX11_notes_112 rfl ?_
  exact hk14 m_primes (upd m_pa (v4).toNatClampNeg (m_pa ((v4 - (1 : Int32))).toNatClampNeg)) (upd m_pb (v4).toNatClampNeg (m_pb ((v4 - (1 : Int32))).toNatClampNeg)) (upd m_pNorm (v4).toNatClampNeg (m_pNorm ((v4 - (1 : Int32))).toNatClampNeg)) v1 v2 v3 (v4 - (1 : Int32)) _ _ _ X (lv_sub hl [1, 2, 3, 4, 0] rfl) hf
set_option maxHeartbeats 4000000 in
set_option maxRecDepth 100000 in
theorem w_X11_notes_115 {E : KE} {A : Nat → Prop} {D : va_G} {T : KT} (h : Nat → Nat) (C : kx_C E cX11_notes 5 none RX11 2 46 D T) (N : Nat) (x : Int32 × (Nat → Int32) × (Nat → Int32) × (Nat → Int32)) (m_taped m_states : Int32) (m_ra m_rb : Int64) (m_threes m_ones m_unit : Int32) (m_allParts m_allNorms m_allClasses : Int64) (m_odd : Int32) (m_boxWide m_boxHigh m_boxStep : Int64) (m_partingMany : Int32) (m_qa m_qb m_la m_lb m_sa m_sb m_ta m_tb : Int64) (m_listed m_tells m_wanted m_found : Int32) (m_bits : Int64) (m_power2 m_rings m_ringA m_ringB m_seedNow : Int32) (m_tape m_has m_keptHas m_first m_second m_keptFirst m_keptSecond m_cubed m_isOpen m_signs m_often m_la0 m_lb0 : Nat → Int32) (R : kx_RV E cX11_notes D A (wM T h m_taped m_states m_ra m_rb m_threes x.1 m_ones m_unit m_allParts m_allNorms m_allClasses m_odd m_boxWide m_boxHigh m_boxStep m_partingMany m_qa m_qb m_la m_lb m_sa m_sb m_ta m_tb m_listed m_tells m_wanted m_found m_bits m_power2 m_rings m_ringA m_ringB m_seedNow m_tape m_has m_keptHas m_first m_second m_keptFirst m_keptSecond x.2.1 x.2.2.1 x.2.2.2 m_cubed m_isOpen m_signs m_often m_la0 m_lb0)) : ∀ (m_primes : Int32) (m_pa m_pb m_pNorm : Nat → Int32) (v1 v2 v3 v4 : Int32) (H : Heap) (locs : List Loc) (ls : Array Slot), kx_H E D A H locs (wM T h m_taped m_states m_ra m_rb m_threes m_primes m_ones m_unit m_allParts m_allNorms m_allClasses m_odd m_boxWide m_boxHigh m_boxStep m_partingMany m_qa m_qb m_la m_lb m_sa m_sb m_ta m_tb m_listed m_tells m_wanted m_found m_bits m_power2 m_rings m_ringA m_ringB m_seedNow m_tape m_has m_keptHas m_first m_second m_keptFirst m_keptSecond m_pa m_pb m_pNorm m_cubed m_isOpen m_signs m_often m_la0 m_lb0) → lv_has ls 5 [(0, .ref (h 0)), (1, .int v1), (2, .int v2), (3, .int v3), (4, .int v4)] → f_X11_notes_115 N v1 v2 v3 v4 m_primes m_pa m_pb m_pNorm = some x → kx_W E H locs 115 ls [] := by
  intro m_primes m_pa m_pb m_pNorm v1 v2 v3 v4 H locs ls X hl hf
  rw [f_X11_notes_115] at hf
  refine x_aload_n 116 C dX11_notes_115 hl 0 rfl rfl ?_
  refine x_get 119 C dX11_notes_116 X kf_X11_33 0 rfl rfl rfl ?_
  refine x_iload 121 C dX11_notes_119 hl 4 rfl rfl ?_
  refine x_iload_n 122 C dX11_notes_121 hl 1 rfl rfl ?_
  refine x_iast 123 C dX11_notes_122 X 8 rfl (wM T h m_taped m_states m_ra m_rb m_threes m_primes m_ones m_unit m_allParts m_allNorms m_allClasses m_odd m_boxWide m_boxHigh m_boxStep m_partingMany m_qa m_qb m_la m_lb m_sa m_sb m_ta m_tb m_listed m_tells m_wanted m_found m_bits m_power2 m_rings m_ringA m_ringB m_seedNow m_tape m_has m_keptHas m_first m_second m_keptFirst m_keptSecond (upd m_pa (v4).toNatClampNeg v1) m_pb m_pNorm m_cubed m_isOpen m_signs m_often m_la0 m_lb0) rfl hf rfl (fun H locs X hf => ?_)
  refine x_aload_n 124 C dX11_notes_123 hl 0 rfl rfl ?_
  refine x_get 127 C dX11_notes_124 X kf_X11_36 0 rfl rfl rfl ?_
  refine x_iload 129 C dX11_notes_127 hl 4 rfl rfl ?_
  refine x_iload_n 130 C dX11_notes_129 hl 2 rfl rfl ?_
  refine x_iast 131 C dX11_notes_130 X 9 rfl (wM T h m_taped m_states m_ra m_rb m_threes m_primes m_ones m_unit m_allParts m_allNorms m_allClasses m_odd m_boxWide m_boxHigh m_boxStep m_partingMany m_qa m_qb m_la m_lb m_sa m_sb m_ta m_tb m_listed m_tells m_wanted m_found m_bits m_power2 m_rings m_ringA m_ringB m_seedNow m_tape m_has m_keptHas m_first m_second m_keptFirst m_keptSecond (upd m_pa (v4).toNatClampNeg v1) (upd m_pb (v4).toNatClampNeg v2) m_pNorm m_cubed m_isOpen m_signs m_often m_la0 m_lb0) rfl hf rfl (fun H locs X hf => ?_)
  refine x_aload_n 132 C dX11_notes_131 hl 0 rfl rfl ?_
  refine x_get 135 C dX11_notes_132 X kf_X11_39 0 rfl rfl rfl ?_
  refine x_iload 137 C dX11_notes_135 hl 4 rfl rfl ?_
  refine x_iload_n 138 C dX11_notes_137 hl 3 rfl rfl ?_
  refine x_iast 139 C dX11_notes_138 X 10 rfl (wM T h m_taped m_states m_ra m_rb m_threes m_primes m_ones m_unit m_allParts m_allNorms m_allClasses m_odd m_boxWide m_boxHigh m_boxStep m_partingMany m_qa m_qb m_la m_lb m_sa m_sb m_ta m_tb m_listed m_tells m_wanted m_found m_bits m_power2 m_rings m_ringA m_ringB m_seedNow m_tape m_has m_keptHas m_first m_second m_keptFirst m_keptSecond (upd m_pa (v4).toNatClampNeg v1) (upd m_pb (v4).toNatClampNeg v2) (upd m_pNorm (v4).toNatClampNeg v3) m_cubed m_isOpen m_signs m_often m_la0 m_lb0) rfl hf rfl (fun H locs X hf => ?_)
  refine x_aload_n 140 C dX11_notes_139 hl 0 rfl rfl ?_
  refine x_aload_n 141 C dX11_notes_140 hl 0 rfl rfl ?_
  refine x_get 144 C dX11_notes_141 X kf_X11_201 0 rfl rfl rfl ?_
  refine x_iconst 145 C dX11_notes_144 (1 : Int32) kv_iconst_1 rfl ?_
  refine x_iadd 146 C dX11_notes_145 rfl ?_
  refine x_put 149 C dX11_notes_146 X kp_X11_201 0 rfl rfl rfl rfl (wM T h m_taped m_states m_ra m_rb m_threes (m_primes + (1 : Int32)) m_ones m_unit m_allParts m_allNorms m_allClasses m_odd m_boxWide m_boxHigh m_boxStep m_partingMany m_qa m_qb m_la m_lb m_sa m_sb m_ta m_tb m_listed m_tells m_wanted m_found m_bits m_power2 m_rings m_ringA m_ringB m_seedNow m_tape m_has m_keptHas m_first m_second m_keptFirst m_keptSecond (upd m_pa (v4).toNatClampNeg v1) (upd m_pb (v4).toNatClampNeg v2) (upd m_pNorm (v4).toNatClampNeg v3) m_cubed m_isOpen m_signs m_often m_la0 m_lb0) rfl rfl (fun H locs X => ?_)
  obtain rfl := Option.some.inj hf
  exact R _ _ _ _ X dX11_notes_149
set_option maxHeartbeats 4000000 in
set_option maxRecDepth 100000 in
theorem w_X11_notes_14 {E : KE} {A : Nat → Prop} {D : va_G} {T : KT} (h : Nat → Nat) (C : kx_C E cX11_notes 5 none RX11 2 46 D T) (N : Nat) (x : Int32 × (Nat → Int32) × (Nat → Int32) × (Nat → Int32)) (m_taped m_states : Int32) (m_ra m_rb : Int64) (m_threes m_ones m_unit : Int32) (m_allParts m_allNorms m_allClasses : Int64) (m_odd : Int32) (m_boxWide m_boxHigh m_boxStep : Int64) (m_partingMany : Int32) (m_qa m_qb m_la m_lb m_sa m_sb m_ta m_tb : Int64) (m_listed m_tells m_wanted m_found : Int32) (m_bits : Int64) (m_power2 m_rings m_ringA m_ringB m_seedNow : Int32) (m_tape m_has m_keptHas m_first m_second m_keptFirst m_keptSecond m_cubed m_isOpen m_signs m_often m_la0 m_lb0 : Nat → Int32) (R : kx_RV E cX11_notes D A (wM T h m_taped m_states m_ra m_rb m_threes x.1 m_ones m_unit m_allParts m_allNorms m_allClasses m_odd m_boxWide m_boxHigh m_boxStep m_partingMany m_qa m_qb m_la m_lb m_sa m_sb m_ta m_tb m_listed m_tells m_wanted m_found m_bits m_power2 m_rings m_ringA m_ringB m_seedNow m_tape m_has m_keptHas m_first m_second m_keptFirst m_keptSecond x.2.1 x.2.2.1 x.2.2.2 m_cubed m_isOpen m_signs m_often m_la0 m_lb0)) : ∀ (k : Nat), ∀ (m_primes : Int32) (m_pa m_pb m_pNorm : Nat → Int32) (v1 v2 v3 v4 : Int32) (H : Heap) (locs : List Loc) (ls : Array Slot), kx_H E D A H locs (wM T h m_taped m_states m_ra m_rb m_threes m_primes m_ones m_unit m_allParts m_allNorms m_allClasses m_odd m_boxWide m_boxHigh m_boxStep m_partingMany m_qa m_qb m_la m_lb m_sa m_sb m_ta m_tb m_listed m_tells m_wanted m_found m_bits m_power2 m_rings m_ringA m_ringB m_seedNow m_tape m_has m_keptHas m_first m_second m_keptFirst m_keptSecond m_pa m_pb m_pNorm m_cubed m_isOpen m_signs m_often m_la0 m_lb0) → lv_has ls 5 [(0, .ref (h 0)), (1, .int v1), (2, .int v2), (3, .int v3), (4, .int v4)] → f_X11_notes_14 N k v1 v2 v3 v4 m_primes m_pa m_pb m_pNorm = some x → kx_W E H locs 14 ls [] := by
  intro k
  induction k with
  | zero =>
    intro m_primes m_pa m_pb m_pNorm v1 v2 v3 v4 H locs ls X hl hf
    cases (show (none : Option (Int32 × (Nat → Int32) × (Nat → Int32) × (Nat → Int32))) = some x from hf)
  | succ k ih =>
    intro m_primes m_pa m_pb m_pNorm v1 v2 v3 v4 H locs ls X hl hf
    rw [f_X11_notes_14] at hf
    refine x_iload 16 C dX11_notes_14 hl 4 rfl rfl ?_
    refine x_if_le 115 19 C dX11_notes_16 rfl rfl hf (fun hf => ?_) (fun hf => ?_)
    · exact w_X11_notes_115 h C N x m_taped m_states m_ra m_rb m_threes m_ones m_unit m_allParts m_allNorms m_allClasses m_odd m_boxWide m_boxHigh m_boxStep m_partingMany m_qa m_qb m_la m_lb m_sa m_sb m_ta m_tb m_listed m_tells m_wanted m_found m_bits m_power2 m_rings m_ringA m_ringB m_seedNow m_tape m_has m_keptHas m_first m_second m_keptFirst m_keptSecond m_cubed m_isOpen m_signs m_often m_la0 m_lb0 R  m_primes m_pa m_pb m_pNorm v1 v2 v3 v4 _ _ _ X (lv_sub hl [0, 1, 2, 3, 4] rfl) hf
    refine x_aload_n 20 C dX11_notes_19 hl 0 rfl rfl ?_
    refine x_get 23 C dX11_notes_20 X kf_X11_39 0 rfl rfl rfl ?_
    refine x_iload 25 C dX11_notes_23 hl 4 rfl rfl ?_
    refine x_iconst 26 C dX11_notes_25 (1 : Int32) kv_iconst_1 rfl ?_
    refine x_isub 27 C dX11_notes_26 rfl ?_
    refine x_iald 28 C dX11_notes_27 X 10 rfl hf rfl (fun hf => ?_)
    refine x_iload_n 29 C dX11_notes_28 hl 3 rfl rfl ?_
    refine x_icmp_gt 58 32 C dX11_notes_29 rfl rfl hf (fun hf => ?_) (fun hf => ?_)
    · exact w_X11_notes_58 h C N x m_taped m_states m_ra m_rb m_threes m_ones m_unit m_allParts m_allNorms m_allClasses m_odd m_boxWide m_boxHigh m_boxStep m_partingMany m_qa m_qb m_la m_lb m_sa m_sb m_ta m_tb m_listed m_tells m_wanted m_found m_bits m_power2 m_rings m_ringA m_ringB m_seedNow m_tape m_has m_keptHas m_first m_second m_keptFirst m_keptSecond m_cubed m_isOpen m_signs m_often m_la0 m_lb0 R (f_X11_notes_14 N k) ih m_primes m_pa m_pb m_pNorm v1 v2 v3 v4 _ _ _ X (lv_sub hl [0, 1, 2, 3, 4] rfl) hf
    refine x_aload_n 33 C dX11_notes_32 hl 0 rfl rfl ?_
    refine x_get 36 C dX11_notes_33 X kf_X11_39 0 rfl rfl rfl ?_
    refine x_iload 38 C dX11_notes_36 hl 4 rfl rfl ?_
    refine x_iconst 39 C dX11_notes_38 (1 : Int32) kv_iconst_1 rfl ?_
    refine x_isub 40 C dX11_notes_39 rfl ?_
    refine x_iald 41 C dX11_notes_40 X 10 rfl hf rfl (fun hf => ?_)
    refine x_iload_n 42 C dX11_notes_41 hl 3 rfl rfl ?_
    refine x_icmp_ne 115 45 C dX11_notes_42 rfl rfl hf (fun hf => ?_) (fun hf => ?_)
    · exact w_X11_notes_115 h C N x m_taped m_states m_ra m_rb m_threes m_ones m_unit m_allParts m_allNorms m_allClasses m_odd m_boxWide m_boxHigh m_boxStep m_partingMany m_qa m_qb m_la m_lb m_sa m_sb m_ta m_tb m_listed m_tells m_wanted m_found m_bits m_power2 m_rings m_ringA m_ringB m_seedNow m_tape m_has m_keptHas m_first m_second m_keptFirst m_keptSecond m_cubed m_isOpen m_signs m_often m_la0 m_lb0 R  m_primes m_pa m_pb m_pNorm v1 v2 v3 v4 _ _ _ X (lv_sub hl [0, 1, 2, 3, 4] rfl) hf
    refine x_aload_n 46 C dX11_notes_45 hl 0 rfl rfl ?_
    refine x_get 49 C dX11_notes_46 X kf_X11_36 0 rfl rfl rfl ?_
    refine x_iload 51 C dX11_notes_49 hl 4 rfl rfl ?_
    refine x_iconst 52 C dX11_notes_51 (1 : Int32) kv_iconst_1 rfl ?_
    refine x_isub 53 C dX11_notes_52 rfl ?_
    refine x_iald 54 C dX11_notes_53 X 9 rfl hf rfl (fun hf => ?_)
    refine x_iload_n 55 C dX11_notes_54 hl 2 rfl rfl ?_
    refine x_icmp_le 115 58 C dX11_notes_55 rfl rfl hf (fun hf => ?_) (fun hf => ?_)
    · exact w_X11_notes_115 h C N x m_taped m_states m_ra m_rb m_threes m_ones m_unit m_allParts m_allNorms m_allClasses m_odd m_boxWide m_boxHigh m_boxStep m_partingMany m_qa m_qb m_la m_lb m_sa m_sb m_ta m_tb m_listed m_tells m_wanted m_found m_bits m_power2 m_rings m_ringA m_ringB m_seedNow m_tape m_has m_keptHas m_first m_second m_keptFirst m_keptSecond m_cubed m_isOpen m_signs m_often m_la0 m_lb0 R  m_primes m_pa m_pb m_pNorm v1 v2 v3 v4 _ _ _ X (lv_sub hl [0, 1, 2, 3, 4] rfl) hf
    exact w_X11_notes_58 h C N x m_taped m_states m_ra m_rb m_threes m_ones m_unit m_allParts m_allNorms m_allClasses m_odd m_boxWide m_boxHigh m_boxStep m_partingMany m_qa m_qb m_la m_lb m_sa m_sb m_ta m_tb m_listed m_tells m_wanted m_found m_bits m_power2 m_rings m_ringA m_ringB m_seedNow m_tape m_has m_keptHas m_first m_second m_keptFirst m_keptSecond m_cubed m_isOpen m_signs m_often m_la0 m_lb0 R (f_X11_notes_14 N k) ih m_primes m_pa m_pb m_pNorm v1 v2 v3 v4 _ _ _ X (lv_sub hl [0, 1, 2, 3, 4] rfl) hf
set_option maxHeartbeats 4000000 in
set_option maxRecDepth 100000 in
theorem c_X11_notes (l : Launch) (D : va_G) (T : KT) (h : Nat → Nat) (N : Nat) (v1 v2 : Int32) (m_taped m_states : Int32) (m_ra m_rb : Int64) (m_threes m_primes m_ones m_unit : Int32) (m_allParts m_allNorms m_allClasses : Int64) (m_odd : Int32) (m_boxWide m_boxHigh m_boxStep : Int64) (m_partingMany : Int32) (m_qa m_qb m_la m_lb m_sa m_sb m_ta m_tb : Int64) (m_listed m_tells m_wanted m_found : Int32) (m_bits : Int64) (m_power2 m_rings m_ringA m_ringB m_seedNow : Int32) (m_tape m_has m_keptHas m_first m_second m_keptFirst m_keptSecond m_pa m_pb m_pNorm m_cubed m_isOpen m_signs m_often m_la0 m_lb0 : Nat → Int32) (x : Int32 × (Nat → Int32) × (Nat → Int32) × (Nat → Int32)) (hf : f_X11_notes N v1 v2 m_primes m_pa m_pb m_pNorm = some x) : kx_MV l yX11_notes cX11_notes 5 none 2 46 D T [.ref (h 0), .int v1, .int v2] (wM T h m_taped m_states m_ra m_rb m_threes m_primes m_ones m_unit m_allParts m_allNorms m_allClasses m_odd m_boxWide m_boxHigh m_boxStep m_partingMany m_qa m_qb m_la m_lb m_sa m_sb m_ta m_tb m_listed m_tells m_wanted m_found m_bits m_power2 m_rings m_ringA m_ringB m_seedNow m_tape m_has m_keptHas m_first m_second m_keptFirst m_keptSecond m_pa m_pb m_pNorm m_cubed m_isOpen m_signs m_often m_la0 m_lb0) (wM T h m_taped m_states m_ra m_rb m_threes x.1 m_ones m_unit m_allParts m_allNorms m_allClasses m_odd m_boxWide m_boxHigh m_boxStep m_partingMany m_qa m_qb m_la m_lb m_sa m_sb m_ta m_tb m_listed m_tells m_wanted m_found m_bits m_power2 m_rings m_ringA m_ringB m_seedNow m_tape m_has m_keptHas m_first m_second m_keptFirst m_keptSecond x.2.1 x.2.2.1 x.2.2.2 m_cubed m_isOpen m_signs m_often m_la0 m_lb0) := by
  refine kx_ofMV RX11 rfl (plainFor_of_name (x := yX11_notes) kpn_X11) rfl ?_
  intro E A H ls _ C X R hl
  have hl : lv_has ls 5 [(0, .ref (h 0)), (1, .int v1), (2, .int v2)] := hl
  rw [f_X11_notes] at hf
  refine x_iload_n 1 C dX11_notes_0 hl 1 rfl rfl ?_
  refine x_i2l 2 C dX11_notes_1 rfl ?_
  refine x_iload_n 3 C dX11_notes_2 hl 2 rfl rfl ?_
  refine x_i2l 4 C dX11_notes_3 rfl ?_
  obtain ⟨y4, hy4, hf⟩ := kx_bind hf
  refine x_callSi 7 C dX11_notes_4 X hl kl_X11_160 (c_X11_normOf E.2.1 D T  (v1).toInt64 (v2).toInt64  y4 hy4) [] rfl rfl rfl rfl rfl cb_7 rfl (fun H locs X => ?_)
  refine x_istore_n 8 C dX11_notes_7 [(3, .int y4), (0, .ref (h 0)), (1, .int v1), (2, .int v2)] hl rfl rfl rfl (fun ls hl => ?_)
  refine x_aload_n 9 C dX11_notes_8 hl 1 rfl rfl ?_
  refine x_get 12 C dX11_notes_9 X kf_X11_201 0 rfl rfl rfl ?_
  refine x_istore 14 C dX11_notes_12 [(4, .int m_primes), (3, .int y4), (0, .ref (h 0)), (1, .int v1), (2, .int v2)] hl rfl rfl rfl (fun ls hl => ?_)
  exact w_X11_notes_14 h C N x m_taped m_states m_ra m_rb m_threes m_ones m_unit m_allParts m_allNorms m_allClasses m_odd m_boxWide m_boxHigh m_boxStep m_partingMany m_qa m_qb m_la m_lb m_sa m_sb m_ta m_tb m_listed m_tells m_wanted m_found m_bits m_power2 m_rings m_ringA m_ringB m_seedNow m_tape m_has m_keptHas m_first m_second m_keptFirst m_keptSecond m_cubed m_isOpen m_signs m_often m_la0 m_lb0 R  N m_primes m_pa m_pb m_pNorm v1 v2 y4 m_primes _ _ _ X (lv_sub hl [2, 3, 4, 1, 0] rfl) hf
