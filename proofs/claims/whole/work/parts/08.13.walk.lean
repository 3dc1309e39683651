set_option maxHeartbeats 4000000 in
set_option maxRecDepth 100000 in
theorem c_X1_loadQuotient (l : Launch) (D : va_G) (T : KT) (h0 h1 h2 h3 h4 h5 h6 h7 h8 h9 h10 : Nat) (v1 : Int32) (m_count : Int32) (m_quotientA m_quotientB : Nat → Int64) (m_p2_a m_p2_b : Int64) (x : Int64 × Int64) (hf : f_X1_loadQuotient v1 m_count m_quotientA m_quotientB m_p2_a m_p2_b = some x) : kx_MV l yX1_loadQuotient cX1_loadQuotient 3 none 1 24 D T [.ref h0, .int v1, .ref h10] (w43_X1 T h0 h1 h2 h3 h4 h5 h6 h7 h8 h9 h10 m_count m_quotientA m_quotientB m_p2_a m_p2_b) (w43_X1 T h0 h1 h2 h3 h4 h5 h6 h7 h8 h9 h10 m_count m_quotientA m_quotientB x.1 x.2) := by
  refine kx_ofMV RX1 rfl (plainFor_of_name (x := yX1_loadQuotient) kpn_X1) rfl ?_
  intro E A H ls _ C X R hl
  have hl : lv_has ls 3 [(0, .ref h0), (1, .int v1), (2, .ref h10)] := hl
  rw [f_X1_loadQuotient] at hf
  refine x_iload_n 1 C dX1_loadQuotient_0 hl 1 rfl rfl ?_
  refine x_if_lt 35 4 C dX1_loadQuotient_1 rfl rfl hf (fun hf => ?_) (fun hf => ?_)
  · obtain rfl := Option.some.inj hf
    exact R _ _ _ _ X dX1_loadQuotient_35
  refine x_iload_n 5 C dX1_loadQuotient_4 hl 1 rfl rfl ?_
  refine x_aload_n 6 C dX1_loadQuotient_5 hl 0 rfl rfl ?_
  refine x_get 9 C dX1_loadQuotient_6 X kf_X1_49 0 rfl rfl rfl ?_
  refine x_icmp_ge 35 12 C dX1_loadQuotient_9 rfl rfl hf (fun hf => ?_) (fun hf => ?_)
  · obtain rfl := Option.some.inj hf
    exact R _ _ _ _ X dX1_loadQuotient_35
  refine x_iload_n 13 C dX1_loadQuotient_12 hl 1 rfl rfl ?_
  refine x_sipush 16 C dX1_loadQuotient_13 (128 : Int32) kv_sipush_128 rfl ?_
  refine x_icmp_ge 35 19 C dX1_loadQuotient_16 rfl rfl hf (fun hf => ?_) (fun hf => ?_)
  · obtain rfl := Option.some.inj hf
    exact R _ _ _ _ X dX1_loadQuotient_35
  refine x_aload_n 20 C dX1_loadQuotient_19 hl 2 rfl rfl ?_
  refine x_aload_n 21 C dX1_loadQuotient_20 hl 0 rfl rfl ?_
  refine x_get 24 C dX1_loadQuotient_21 X kf_X1_34 0 rfl rfl rfl ?_
  refine x_iload_n 25 C dX1_loadQuotient_24 hl 1 rfl rfl ?_
  refine x_lald 26 C dX1_loadQuotient_25 X 1 rfl hf rfl (fun hf => ?_)
  refine x_aload_n 27 C dX1_loadQuotient_26 hl 0 rfl rfl ?_
  refine x_get 30 C dX1_loadQuotient_27 X kf_X1_38 0 rfl rfl rfl ?_
  refine x_iload_n 31 C dX1_loadQuotient_30 hl 1 rfl rfl ?_
  refine x_lald 32 C dX1_loadQuotient_31 X 2 rfl hf rfl (fun hf => ?_)
  obtain ⟨y32, hy32, hf⟩ := kx_bind hf
  refine x_callVv 35 C dX1_loadQuotient_32 X hl kl_X1_45 (c_X5_set E.2.1 D T h10 (m_quotientA (v1).toNatClampNeg) (m_quotientB (v1).toNatClampNeg) m_p2_a m_p2_b y32 hy32) rfl rfl [] rfl rfl rfl rfl rfl cb_125 rfl (fun H locs X => ?_)
  obtain rfl := Option.some.inj hf
  exact R _ _ _ _ X dX1_loadQuotient_35
set_option maxHeartbeats 4000000 in
set_option maxRecDepth 100000 in
theorem w_X10_parting_141 {E : KE} {A : Nat → Prop} {D : va_G} {T : KT} (h : Nat → Nat) (C : kx_C E cX10_parting 6 (some .int) RX10 3 76 D T) (N : Nat) (x : Int32 × Int32 × Int64 × Int64 × Int64 × Int64 × Int64 × Int64 × Int64 × Int64 × Int64 × Int64 × Int64 × Int64 × Int64 × Int64 × (Nat → Int64) × (Nat → Int64) × Int64 × Int64 × Int64 × Int64 × Int64 × Int64) (m_drawers_full m_drawers_kept : Int32) (m_drawers_partA m_drawers_partB m_drawers_keptA m_drawers_keptB m_drawers_keptFull : Nat → Int32) (m_tape_size m_tape_plain m_tape_omegas m_tape_end m_tape_place m_tape_plainTold m_tape_omegasTold : Int32) (m_tape_bytes : Nat → Int32) (m_modulus_step m_modulus_width m_modulus_slant m_modulus_square_a m_modulus_square_b : Int64) (m_factors_count m_factors_threes m_factors_unit : Int32) (m_factors_primeA m_factors_primeB m_factors_norms : Nat → Int64) (m_factors_euclid_count : Int32) (m_factors_euclid_last_a m_factors_euclid_last_b m_factors_euclid_lastOfFirst_a m_factors_euclid_lastOfFirst_b m_factors_euclid_lastOfSecond_a m_factors_euclid_lastOfSecond_b m_factors_euclid_next_a m_factors_euclid_next_b m_factors_euclid_nextOfFirst_a m_factors_euclid_nextOfFirst_b m_factors_euclid_nextOfSecond_a m_factors_euclid_nextOfSecond_b m_factors_euclid_q_a m_factors_euclid_q_b : Int64) (m_factors_euclid_quotientA m_factors_euclid_quotientB : Nat → Int64) (m_factors_left_a m_factors_left_b m_factors_found_a m_factors_found_b m_factors_product_a m_factors_product_b : Int64) (m_primes_count : Int32) (m_primes_primeA m_primes_primeB : Nat → Int32) (m_primes_found_a m_primes_found_b : Int64) (m_rings_foundA m_rings_foundB m_rings_all m_rings_mostOfOneRow m_letters_count : Int32) (m_letters_bytes : Nat → Int32) (m_three_a m_three_b m_four_a m_four_b m_spare_a m_spare_b : Int64) (m_marks : Nat → Int32) (R : kx_RI E cX10_parting D A (wC T h m_drawers_full m_drawers_kept m_drawers_partA m_drawers_partB m_drawers_keptA m_drawers_keptB m_drawers_keptFull m_tape_size m_tape_plain m_tape_omegas m_tape_end m_tape_place m_tape_plainTold m_tape_omegasTold m_tape_bytes x.2.1 x.2.2.1 x.2.2.2.1 x.2.2.2.2.1 x.2.2.2.2.2.1 x.2.2.2.2.2.2.1 x.2.2.2.2.2.2.2.1 x.2.2.2.2.2.2.2.2.1 x.2.2.2.2.2.2.2.2.2.1 x.2.2.2.2.2.2.2.2.2.2.1 x.2.2.2.2.2.2.2.2.2.2.2.1 x.2.2.2.2.2.2.2.2.2.2.2.2.1 x.2.2.2.2.2.2.2.2.2.2.2.2.2.1 x.2.2.2.2.2.2.2.2.2.2.2.2.2.2.1 x.2.2.2.2.2.2.2.2.2.2.2.2.2.2.2.1 x.2.2.2.2.2.2.2.2.2.2.2.2.2.2.2.2.1 x.2.2.2.2.2.2.2.2.2.2.2.2.2.2.2.2.2.1 m_modulus_step m_modulus_width m_modulus_slant m_modulus_square_a m_modulus_square_b m_factors_count m_factors_threes m_factors_unit m_factors_primeA m_factors_primeB m_factors_norms m_factors_euclid_count m_factors_euclid_last_a m_factors_euclid_last_b m_factors_euclid_lastOfFirst_a m_factors_euclid_lastOfFirst_b m_factors_euclid_lastOfSecond_a m_factors_euclid_lastOfSecond_b m_factors_euclid_next_a m_factors_euclid_next_b m_factors_euclid_nextOfFirst_a m_factors_euclid_nextOfFirst_b m_factors_euclid_nextOfSecond_a m_factors_euclid_nextOfSecond_b m_factors_euclid_q_a m_factors_euclid_q_b m_factors_euclid_quotientA m_factors_euclid_quotientB m_factors_left_a m_factors_left_b m_factors_found_a m_factors_found_b m_factors_product_a m_factors_product_b m_primes_count m_primes_primeA m_primes_primeB m_primes_found_a m_primes_found_b m_rings_foundA m_rings_foundB m_rings_all m_rings_mostOfOneRow m_letters_count m_letters_bytes x.2.2.2.2.2.2.2.2.2.2.2.2.2.2.2.2.2.2.1 x.2.2.2.2.2.2.2.2.2.2.2.2.2.2.2.2.2.2.2.1 x.2.2.2.2.2.2.2.2.2.2.2.2.2.2.2.2.2.2.2.2.1 x.2.2.2.2.2.2.2.2.2.2.2.2.2.2.2.2.2.2.2.2.2.1 m_three_a m_three_b m_four_a m_four_b x.2.2.2.2.2.2.2.2.2.2.2.2.2.2.2.2.2.2.2.2.2.2.1 x.2.2.2.2.2.2.2.2.2.2.2.2.2.2.2.2.2.2.2.2.2.2.2 m_spare_a m_spare_b m_marks) x.1) : ∀ (m_euclid_count : Int32) (m_euclid_last_a m_euclid_last_b m_euclid_lastOfFirst_a m_euclid_lastOfFirst_b m_euclid_lastOfSecond_a m_euclid_lastOfSecond_b m_euclid_next_a m_euclid_next_b m_euclid_nextOfFirst_a m_euclid_nextOfFirst_b m_euclid_nextOfSecond_a m_euclid_nextOfSecond_b m_euclid_q_a m_euclid_q_b : Int64) (m_euclid_quotientA m_euclid_quotientB : Nat → Int64) (m_one_a m_one_b m_two_a m_two_b m_out_a m_out_b : Int64) (v4 : Int32) (H : Heap) (locs : List Loc) (ls : Array Slot), kx_H E D A H locs (wC T h m_drawers_full m_drawers_kept m_drawers_partA m_drawers_partB m_drawers_keptA m_drawers_keptB m_drawers_keptFull m_tape_size m_tape_plain m_tape_omegas m_tape_end m_tape_place m_tape_plainTold m_tape_omegasTold m_tape_bytes m_euclid_count m_euclid_last_a m_euclid_last_b m_euclid_lastOfFirst_a m_euclid_lastOfFirst_b m_euclid_lastOfSecond_a m_euclid_lastOfSecond_b m_euclid_next_a m_euclid_next_b m_euclid_nextOfFirst_a m_euclid_nextOfFirst_b m_euclid_nextOfSecond_a m_euclid_nextOfSecond_b m_euclid_q_a m_euclid_q_b m_euclid_quotientA m_euclid_quotientB m_modulus_step m_modulus_width m_modulus_slant m_modulus_square_a m_modulus_square_b m_factors_count m_factors_threes m_factors_unit m_factors_primeA m_factors_primeB m_factors_norms m_factors_euclid_count m_factors_euclid_last_a m_factors_euclid_last_b m_factors_euclid_lastOfFirst_a m_factors_euclid_lastOfFirst_b m_factors_euclid_lastOfSecond_a m_factors_euclid_lastOfSecond_b m_factors_euclid_next_a m_factors_euclid_next_b m_factors_euclid_nextOfFirst_a m_factors_euclid_nextOfFirst_b m_factors_euclid_nextOfSecond_a m_factors_euclid_nextOfSecond_b m_factors_euclid_q_a m_factors_euclid_q_b m_factors_euclid_quotientA m_factors_euclid_quotientB m_factors_left_a m_factors_left_b m_factors_found_a m_factors_found_b m_factors_product_a m_factors_product_b m_primes_count m_primes_primeA m_primes_primeB m_primes_found_a m_primes_found_b m_rings_foundA m_rings_foundB m_rings_all m_rings_mostOfOneRow m_letters_count m_letters_bytes m_one_a m_one_b m_two_a m_two_b m_three_a m_three_b m_four_a m_four_b m_out_a m_out_b m_spare_a m_spare_b m_marks) → lv_has ls 6 [(0, .ref (h 0)), (4, .int v4)] → f_X10_parting_141 N v4 m_euclid_count m_euclid_last_a m_euclid_last_b m_euclid_lastOfFirst_a m_euclid_lastOfFirst_b m_euclid_lastOfSecond_a m_euclid_lastOfSecond_b m_euclid_next_a m_euclid_next_b m_euclid_nextOfFirst_a m_euclid_nextOfFirst_b m_euclid_nextOfSecond_a m_euclid_nextOfSecond_b m_euclid_q_a m_euclid_q_b m_euclid_quotientA m_euclid_quotientB m_one_a m_one_b m_two_a m_two_b m_out_a m_out_b = some x → kx_W E H locs 141 ls [] := by
  intro m_euclid_count m_euclid_last_a m_euclid_last_b m_euclid_lastOfFirst_a m_euclid_lastOfFirst_b m_euclid_lastOfSecond_a m_euclid_lastOfSecond_b m_euclid_next_a m_euclid_next_b m_euclid_nextOfFirst_a m_euclid_nextOfFirst_b m_euclid_nextOfSecond_a m_euclid_nextOfSecond_b m_euclid_q_a m_euclid_q_b m_euclid_quotientA m_euclid_quotientB m_one_a m_one_b m_two_a m_two_b m_out_a m_out_b v4 H locs ls X hl hf
  rw [f_X10_parting_141] at hf
  refine x_aload_n 142 C dX10_parting_141 hl 0 rfl rfl ?_
  refine x_get 145 C dX10_parting_142 X kf_X10_28 0 rfl rfl rfl ?_
  refine x_get 148 C dX10_parting_145 X kf_X10_362 9 rfl rfl rfl ?_
  refine x_iload 150 C dX10_parting_148 hl 1 rfl rfl ?_
  refine x_iconst 151 C dX10_parting_150 (2 : Int32) kv_iconst_2 rfl ?_
  refine x_isub 152 C dX10_parting_151 rfl ?_
  obtain ⟨y152, hy152, hf⟩ := kx_bind hf
  refine x_callSi 155 C dX10_parting_152 X hl kl_X10_273 (c_X10_part E.2.1 D T (h 11) (v4 - (2 : Int32)) m_euclid_lastOfFirst_a m_euclid_lastOfFirst_b y152 hy152) [] rfl rfl rfl rfl rfl cb_121 rfl (fun H locs X => ?_)
  obtain rfl := Option.some.inj hf
  exact R _ _ _ _ X dX10_parting_155
set_option maxHeartbeats 4000000 in
set_option maxRecDepth 100000 in
theorem w_X10_parting_10 {E : KE} {A : Nat → Prop} {D : va_G} {T : KT} (h : Nat → Nat) (C : kx_C E cX10_parting 6 (some .int) RX10 3 76 D T) (N : Nat) (x : Int32 × Int32 × Int64 × Int64 × Int64 × Int64 × Int64 × Int64 × Int64 × Int64 × Int64 × Int64 × Int64 × Int64 × Int64 × Int64 × (Nat → Int64) × (Nat → Int64) × Int64 × Int64 × Int64 × Int64 × Int64 × Int64) (m_drawers_full m_drawers_kept : Int32) (m_drawers_partA m_drawers_partB m_drawers_keptA m_drawers_keptB m_drawers_keptFull : Nat → Int32) (m_tape_size m_tape_plain m_tape_omegas m_tape_end m_tape_place m_tape_plainTold m_tape_omegasTold : Int32) (m_tape_bytes : Nat → Int32) (m_modulus_step m_modulus_width m_modulus_slant m_modulus_square_a m_modulus_square_b : Int64) (m_factors_count m_factors_threes m_factors_unit : Int32) (m_factors_primeA m_factors_primeB m_factors_norms : Nat → Int64) (m_factors_euclid_count : Int32) (m_factors_euclid_last_a m_factors_euclid_last_b m_factors_euclid_lastOfFirst_a m_factors_euclid_lastOfFirst_b m_factors_euclid_lastOfSecond_a m_factors_euclid_lastOfSecond_b m_factors_euclid_next_a m_factors_euclid_next_b m_factors_euclid_nextOfFirst_a m_factors_euclid_nextOfFirst_b m_factors_euclid_nextOfSecond_a m_factors_euclid_nextOfSecond_b m_factors_euclid_q_a m_factors_euclid_q_b : Int64) (m_factors_euclid_quotientA m_factors_euclid_quotientB : Nat → Int64) (m_factors_left_a m_factors_left_b m_factors_found_a m_factors_found_b m_factors_product_a m_factors_product_b : Int64) (m_primes_count : Int32) (m_primes_primeA m_primes_primeB : Nat → Int32) (m_primes_found_a m_primes_found_b : Int64) (m_rings_foundA m_rings_foundB m_rings_all m_rings_mostOfOneRow m_letters_count : Int32) (m_letters_bytes : Nat → Int32) (m_three_a m_three_b m_four_a m_four_b m_spare_a m_spare_b : Int64) (m_marks : Nat → Int32) (R : kx_RI E cX10_parting D A (wC T h m_drawers_full m_drawers_kept m_drawers_partA m_drawers_partB m_drawers_keptA m_drawers_keptB m_drawers_keptFull m_tape_size m_tape_plain m_tape_omegas m_tape_end m_tape_place m_tape_plainTold m_tape_omegasTold m_tape_bytes x.2.1 x.2.2.1 x.2.2.2.1 x.2.2.2.2.1 x.2.2.2.2.2.1 x.2.2.2.2.2.2.1 x.2.2.2.2.2.2.2.1 x.2.2.2.2.2.2.2.2.1 x.2.2.2.2.2.2.2.2.2.1 x.2.2.2.2.2.2.2.2.2.2.1 x.2.2.2.2.2.2.2.2.2.2.2.1 x.2.2.2.2.2.2.2.2.2.2.2.2.1 x.2.2.2.2.2.2.2.2.2.2.2.2.2.1 x.2.2.2.2.2.2.2.2.2.2.2.2.2.2.1 x.2.2.2.2.2.2.2.2.2.2.2.2.2.2.2.1 x.2.2.2.2.2.2.2.2.2.2.2.2.2.2.2.2.1 x.2.2.2.2.2.2.2.2.2.2.2.2.2.2.2.2.2.1 m_modulus_step m_modulus_width m_modulus_slant m_modulus_square_a m_modulus_square_b m_factors_count m_factors_threes m_factors_unit m_factors_primeA m_factors_primeB m_factors_norms m_factors_euclid_count m_factors_euclid_last_a m_factors_euclid_last_b m_factors_euclid_lastOfFirst_a m_factors_euclid_lastOfFirst_b m_factors_euclid_lastOfSecond_a m_factors_euclid_lastOfSecond_b m_factors_euclid_next_a m_factors_euclid_next_b m_factors_euclid_nextOfFirst_a m_factors_euclid_nextOfFirst_b m_factors_euclid_nextOfSecond_a m_factors_euclid_nextOfSecond_b m_factors_euclid_q_a m_factors_euclid_q_b m_factors_euclid_quotientA m_factors_euclid_quotientB m_factors_left_a m_factors_left_b m_factors_found_a m_factors_found_b m_factors_product_a m_factors_product_b m_primes_count m_primes_primeA m_primes_primeB m_primes_found_a m_primes_found_b m_rings_foundA m_rings_foundB m_rings_all m_rings_mostOfOneRow m_letters_count m_letters_bytes x.2.2.2.2.2.2.2.2.2.2.2.2.2.2.2.2.2.2.1 x.2.2.2.2.2.2.2.2.2.2.2.2.2.2.2.2.2.2.2.1 x.2.2.2.2.2.2.2.2.2.2.2.2.2.2.2.2.2.2.2.2.1 x.2.2.2.2.2.2.2.2.2.2.2.2.2.2.2.2.2.2.2.2.2.1 m_three_a m_three_b m_four_a m_four_b x.2.2.2.2.2.2.2.2.2.2.2.2.2.2.2.2.2.2.2.2.2.2.1 x.2.2.2.2.2.2.2.2.2.2.2.2.2.2.2.2.2.2.2.2.2.2.2 m_spare_a m_spare_b m_marks) x.1) : ∀ (m_euclid_count : Int32) (m_euclid_last_a m_euclid_last_b m_euclid_lastOfFirst_a m_euclid_lastOfFirst_b m_euclid_lastOfSecond_a m_euclid_lastOfSecond_b m_euclid_next_a m_euclid_next_b m_euclid_nextOfFirst_a m_euclid_nextOfFirst_b m_euclid_nextOfSecond_a m_euclid_nextOfSecond_b m_euclid_q_a m_euclid_q_b : Int64) (m_euclid_quotientA m_euclid_quotientB : Nat → Int64) (m_one_a m_one_b m_two_a m_two_b m_out_a m_out_b : Int64) (v1 v2 v3 v4 s0 : Int32) (H : Heap) (locs : List Loc) (ls : Array Slot), kx_H E D A H locs (wC T h m_drawers_full m_drawers_kept m_drawers_partA m_drawers_partB m_drawers_keptA m_drawers_keptB m_drawers_keptFull m_tape_size m_tape_plain m_tape_omegas m_tape_end m_tape_place m_tape_plainTold m_tape_omegasTold m_tape_bytes m_euclid_count m_euclid_last_a m_euclid_last_b m_euclid_lastOfFirst_a m_euclid_lastOfFirst_b m_euclid_lastOfSecond_a m_euclid_lastOfSecond_b m_euclid_next_a m_euclid_next_b m_euclid_nextOfFirst_a m_euclid_nextOfFirst_b m_euclid_nextOfSecond_a m_euclid_nextOfSecond_b m_euclid_q_a m_euclid_q_b m_euclid_quotientA m_euclid_quotientB m_modulus_step m_modulus_width m_modulus_slant m_modulus_square_a m_modulus_square_b m_factors_count m_factors_threes m_factors_unit m_factors_primeA m_factors_primeB m_factors_norms m_factors_euclid_count m_factors_euclid_last_a m_factors_euclid_last_b m_factors_euclid_lastOfFirst_a m_factors_euclid_lastOfFirst_b m_factors_euclid_lastOfSecond_a m_factors_euclid_lastOfSecond_b m_factors_euclid_next_a m_factors_euclid_next_b m_factors_euclid_nextOfFirst_a m_factors_euclid_nextOfFirst_b m_factors_euclid_nextOfSecond_a m_factors_euclid_nextOfSecond_b m_factors_euclid_q_a m_factors_euclid_q_b m_factors_euclid_quotientA m_factors_euclid_quotientB m_factors_left_a m_factors_left_b m_factors_found_a m_factors_found_b m_factors_product_a m_factors_product_b m_primes_count m_primes_primeA m_primes_primeB m_primes_found_a m_primes_found_b m_rings_foundA m_rings_foundB m_rings_all m_rings_mostOfOneRow m_letters_count m_letters_bytes m_one_a m_one_b m_two_a m_two_b m_three_a m_three_b m_four_a m_four_b m_out_a m_out_b m_spare_a m_spare_b m_marks) → lv_has ls 6 [(0, .ref (h 0)), (1, .int v1), (2, .int v2), (3, .int v3), (4, .int v4)] → f_X10_parting_10 N v1 v2 v3 v4 s0 m_drawers_full m_drawers_partA m_drawers_partB m_euclid_count m_euclid_last_a m_euclid_last_b m_euclid_lastOfFirst_a m_euclid_lastOfFirst_b m_euclid_lastOfSecond_a m_euclid_lastOfSecond_b m_euclid_next_a m_euclid_next_b m_euclid_nextOfFirst_a m_euclid_nextOfFirst_b m_euclid_nextOfSecond_a m_euclid_nextOfSecond_b m_euclid_q_a m_euclid_q_b m_euclid_quotientA m_euclid_quotientB m_one_a m_one_b m_two_a m_two_b m_out_a m_out_b = some x → kx_W E H locs 10 ls [.int s0] := by
  intro m_euclid_count m_euclid_last_a m_euclid_last_b m_euclid_lastOfFirst_a m_euclid_lastOfFirst_b m_euclid_lastOfSecond_a m_euclid_lastOfSecond_b m_euclid_next_a m_euclid_next_b m_euclid_nextOfFirst_a m_euclid_nextOfFirst_b m_euclid_nextOfSecond_a m_euclid_nextOfSecond_b m_euclid_q_a m_euclid_q_b m_euclid_quotientA m_euclid_quotientB m_one_a m_one_b m_two_a m_two_b m_out_a m_out_b v1 v2 v3 v4 s0 H locs ls X hl hf
  rw [f_X10_parting_10] at hf
  refine x_istore 12 C dX10_parting_10 [(5, .int s0), (0, .ref (h 0)), (1, .int v1), (2, .int v2), (3, .int v3), (4, .int v4)] hl rfl rfl rfl (fun ls hl => ?_)
  refine x_iload_n 13 C dX10_parting_12 hl 4 rfl rfl ?_
  refine x_iconst 14 C dX10_parting_13 (-1 : Int32) kv_iconst_m1 rfl ?_
  refine x_icmp_lt 38 17 C dX10_parting_14 rfl rfl hf (fun hf => ?_) (fun hf => ?_)
  · refine x_ldc 40 C dX10_parting_38 (-2147483648 : Int32) kc_X10_140 rfl ?_
    obtain rfl := Option.some.inj hf
    exact R _ _ _ _ X dX10_parting_40
  refine x_iload 19 C dX10_parting_17 hl 5 rfl rfl ?_
  refine x_if_lt 38 22 C dX10_parting_19 rfl rfl hf (fun hf => ?_) (fun hf => ?_)
  · refine x_ldc 40 C dX10_parting_38 (-2147483648 : Int32) kc_X10_140 rfl ?_
    obtain rfl := Option.some.inj hf
    exact R _ _ _ _ X dX10_parting_40
  refine x_iload 24 C dX10_parting_22 hl 5 rfl rfl ?_
  refine x_iload 26 C dX10_parting_24 hl 0 rfl rfl ?_
  refine x_icmp_gt 38 29 C dX10_parting_26 rfl rfl hf (fun hf => ?_) (fun hf => ?_)
  · refine x_ldc 40 C dX10_parting_38 (-2147483648 : Int32) kc_X10_140 rfl ?_
    obtain rfl := Option.some.inj hf
    exact R _ _ _ _ X dX10_parting_40
  refine x_aload_n 30 C dX10_parting_29 hl 1 rfl rfl ?_
  refine x_iload_n 31 C dX10_parting_30 hl 2 rfl rfl ?_
  refine x_iload_n 32 C dX10_parting_31 hl 3 rfl rfl ?_
  obtain ⟨y32, hy32, hf⟩ := kx_bind hf
  refine x_callVi0 35 C dX10_parting_32 X hl kl_X10_176 (c_X10_loadTwo E.2.1 D T h v1 v2 m_drawers_full m_drawers_kept m_drawers_partA m_drawers_partB m_drawers_keptA m_drawers_keptB m_drawers_keptFull m_tape_size m_tape_plain m_tape_omegas m_tape_end m_tape_place m_tape_plainTold m_tape_omegasTold m_tape_bytes m_euclid_count m_euclid_last_a m_euclid_last_b m_euclid_lastOfFirst_a m_euclid_lastOfFirst_b m_euclid_lastOfSecond_a m_euclid_lastOfSecond_b m_euclid_next_a m_euclid_next_b m_euclid_nextOfFirst_a m_euclid_nextOfFirst_b m_euclid_nextOfSecond_a m_euclid_nextOfSecond_b m_euclid_q_a m_euclid_q_b m_euclid_quotientA m_euclid_quotientB m_modulus_step m_modulus_width m_modulus_slant m_modulus_square_a m_modulus_square_b m_factors_count m_factors_threes m_factors_unit m_factors_primeA m_factors_primeB m_factors_norms m_factors_euclid_count m_factors_euclid_last_a m_factors_euclid_last_b m_factors_euclid_lastOfFirst_a m_factors_euclid_lastOfFirst_b m_factors_euclid_lastOfSecond_a m_factors_euclid_lastOfSecond_b m_factors_euclid_next_a m_factors_euclid_next_b m_factors_euclid_nextOfFirst_a m_factors_euclid_nextOfFirst_b m_factors_euclid_nextOfSecond_a m_factors_euclid_nextOfSecond_b m_factors_euclid_q_a m_factors_euclid_q_b m_factors_euclid_quotientA m_factors_euclid_quotientB m_factors_left_a m_factors_left_b m_factors_found_a m_factors_found_b m_factors_product_a m_factors_product_b m_primes_count m_primes_primeA m_primes_primeB m_primes_found_a m_primes_found_b m_rings_foundA m_rings_foundB m_rings_all m_rings_mostOfOneRow m_letters_count m_letters_bytes m_one_a m_one_b m_two_a m_two_b m_three_a m_three_b m_four_a m_four_b m_out_a m_out_b m_spare_a m_spare_b m_marks y32 hy32) rfl rfl [] rfl rfl rfl rfl rfl rfl (fun H locs X => ?_)
  refine x_if_eq 41 38 C dX10_parting_35 rfl rfl hf (fun hf => ?_) (fun hf => ?_)
  · refine x_aload_n 42 C dX10_parting_41 hl 1 rfl rfl ?_
    refine x_get 45 C dX10_parting_42 X kf_X10_28 0 rfl rfl rfl ?_
    refine x_aload_n 46 C dX10_parting_45 hl 1 rfl rfl ?_
    refine x_get 49 C dX10_parting_46 X kf_X10_70 0 rfl rfl rfl ?_
    refine x_aload_n 50 C dX10_parting_49 hl 1 rfl rfl ?_
    refine x_get 53 C dX10_parting_50 X kf_X10_74 0 rfl rfl rfl ?_
    obtain ⟨y53, hy53, hf⟩ := kx_bind hf
    refine x_callVv 56 C dX10_parting_53 X hl kl_X10_203 (c_X1_part E.2.1 D T (h 9) (h 10) (h 11) (h 12) (h 13) (h 14) (h 15) (h 16) (h 17) (h 18) (h 45) (h 46) N  m_euclid_count m_euclid_last_a m_euclid_last_b m_euclid_lastOfFirst_a m_euclid_lastOfFirst_b m_euclid_lastOfSecond_a m_euclid_lastOfSecond_b m_euclid_next_a m_euclid_next_b m_euclid_nextOfFirst_a m_euclid_nextOfFirst_b m_euclid_nextOfSecond_a m_euclid_nextOfSecond_b m_euclid_q_a m_euclid_q_b m_euclid_quotientA m_euclid_quotientB y32.2.1 y32.2.2.1 y32.2.2.2.1 y32.2.2.2.2 y53 hy53) rfl rfl [] rfl rfl rfl rfl rfl cb_62 rfl (fun H locs X => ?_)
    refine x_iload_n 57 C dX10_parting_56 hl 4 rfl rfl ?_
    refine x_aload_n 58 C dX10_parting_57 hl 1 rfl rfl ?_
    refine x_get 61 C dX10_parting_58 X kf_X10_28 0 rfl rfl rfl ?_
    refine x_get 64 C dX10_parting_61 X kf_X10_358 9 rfl rfl rfl ?_
    refine x_icmp_lt 70 67 C dX10_parting_64 rfl rfl hf (fun hf => ?_) (fun hf => ?_)
    · refine x_iload_n 71 C dX10_parting_70 hl 4 rfl rfl ?_
      refine x_iconst 72 C dX10_parting_71 (-1 : Int32) kv_iconst_m1 rfl ?_
      refine x_icmp_eq 97 75 C dX10_parting_72 rfl rfl hf (fun hf => ?_) (fun hf => ?_)
      · refine x_iload 99 C dX10_parting_97 hl 5 rfl rfl ?_
        refine kx_sw hf (fun hs0 hf => ?_) (fun hs0 hf => ?_)
        · refine x_table (off := 29) 128 C dX10_parting_99 (0 : Int32) hs0 (by decide) (by decide) (by decide) rfl ?_
          refine x_aload_n 129 C dX10_parting_128 hl 1 rfl rfl ?_
          refine x_get 132 C dX10_parting_129 X kf_X10_28 0 rfl rfl rfl ?_
          refine x_get 135 C dX10_parting_132 X kf_X10_206 9 rfl rfl rfl ?_
          refine x_iload 137 C dX10_parting_135 hl 5 rfl rfl ?_
          obtain ⟨y137, hy137, hf⟩ := kx_bind hf
          refine x_callSi 140 C dX10_parting_137 X hl kl_X10_273 (c_X10_part E.2.1 D T (h 10) v4 y53.2.1 y53.2.2.1 y137 hy137) [] rfl rfl rfl rfl rfl cb_122 rfl (fun H locs X => ?_)
          obtain rfl := Option.some.inj hf
          exact R _ _ _ _ X dX10_parting_140
        refine kx_sw hf (fun hs1 hf => ?_) (fun hs1 hf => ?_)
        · refine x_table (off := 29) 128 C dX10_parting_99 (1 : Int32) hs1 (by decide) (by decide) (by decide) rfl ?_
          refine x_aload_n 129 C dX10_parting_128 hl 1 rfl rfl ?_
          refine x_get 132 C dX10_parting_129 X kf_X10_28 0 rfl rfl rfl ?_
          refine x_get 135 C dX10_parting_132 X kf_X10_206 9 rfl rfl rfl ?_
          refine x_iload 137 C dX10_parting_135 hl 5 rfl rfl ?_
          obtain ⟨y137, hy137, hf⟩ := kx_bind hf
          refine x_callSi 140 C dX10_parting_137 X hl kl_X10_273 (c_X10_part E.2.1 D T (h 10) v4 y53.2.1 y53.2.2.1 y137 hy137) [] rfl rfl rfl rfl rfl cb_122 rfl (fun H locs X => ?_)
          obtain rfl := Option.some.inj hf
          exact R _ _ _ _ X dX10_parting_140
        refine kx_sw hf (fun hs2 hf => ?_) (fun hs2 hf => ?_)
        · refine x_table (off := 42) 141 C dX10_parting_99 (2 : Int32) hs2 (by decide) (by decide) (by decide) rfl ?_
          exact w_X10_parting_141 h C N x m_drawers_full m_drawers_kept m_drawers_partA m_drawers_partB m_drawers_keptA m_drawers_keptB m_drawers_keptFull m_tape_size m_tape_plain m_tape_omegas m_tape_end m_tape_place m_tape_plainTold m_tape_omegasTold m_tape_bytes m_modulus_step m_modulus_width m_modulus_slant m_modulus_square_a m_modulus_square_b m_factors_count m_factors_threes m_factors_unit m_factors_primeA m_factors_primeB m_factors_norms m_factors_euclid_count m_factors_euclid_last_a m_factors_euclid_last_b m_factors_euclid_lastOfFirst_a m_factors_euclid_lastOfFirst_b m_factors_euclid_lastOfSecond_a m_factors_euclid_lastOfSecond_b m_factors_euclid_next_a m_factors_euclid_next_b m_factors_euclid_nextOfFirst_a m_factors_euclid_nextOfFirst_b m_factors_euclid_nextOfSecond_a m_factors_euclid_nextOfSecond_b m_factors_euclid_q_a m_factors_euclid_q_b m_factors_euclid_quotientA m_factors_euclid_quotientB m_factors_left_a m_factors_left_b m_factors_found_a m_factors_found_b m_factors_product_a m_factors_product_b m_primes_count m_primes_primeA m_primes_primeB m_primes_found_a m_primes_found_b m_rings_foundA m_rings_foundB m_rings_all m_rings_mostOfOneRow m_letters_count m_letters_bytes m_three_a m_three_b m_four_a m_four_b m_spare_a m_spare_b m_marks R  y53.1 y53.2.1 y53.2.2.1 y53.2.2.2.1 y53.2.2.2.2.1 y53.2.2.2.2.2.1 y53.2.2.2.2.2.2.1 y53.2.2.2.2.2.2.2.1 y53.2.2.2.2.2.2.2.2.1 y53.2.2.2.2.2.2.2.2.2.1 y53.2.2.2.2.2.2.2.2.2.2.1 y53.2.2.2.2.2.2.2.2.2.2.2.1 y53.2.2.2.2.2.2.2.2.2.2.2.2.1 y53.2.2.2.2.2.2.2.2.2.2.2.2.2.1 y53.2.2.2.2.2.2.2.2.2.2.2.2.2.2.1 y53.2.2.2.2.2.2.2.2.2.2.2.2.2.2.2.1 y53.2.2.2.2.2.2.2.2.2.2.2.2.2.2.2.2 y32.2.1 y32.2.2.1 y32.2.2.2.1 y32.2.2.2.2 m_out_a m_out_b v4 _ _ _ X (lv_sub hl [1, 5] rfl) hf
        refine kx_sw hf (fun hs3 hf => ?_) (fun hs3 hf => ?_)
        · refine x_table (off := 42) 141 C dX10_parting_99 (3 : Int32) hs3 (by decide) (by decide) (by decide) rfl ?_
          exact w_X10_parting_141 h C N x m_drawers_full m_drawers_kept m_drawers_partA m_drawers_partB m_drawers_keptA m_drawers_keptB m_drawers_keptFull m_tape_size m_tape_plain m_tape_omegas m_tape_end m_tape_place m_tape_plainTold m_tape_omegasTold m_tape_bytes m_modulus_step m_modulus_width m_modulus_slant m_modulus_square_a m_modulus_square_b m_factors_count m_factors_threes m_factors_unit m_factors_primeA m_factors_primeB m_factors_norms m_factors_euclid_count m_factors_euclid_last_a m_factors_euclid_last_b m_factors_euclid_lastOfFirst_a m_factors_euclid_lastOfFirst_b m_factors_euclid_lastOfSecond_a m_factors_euclid_lastOfSecond_b m_factors_euclid_next_a m_factors_euclid_next_b m_factors_euclid_nextOfFirst_a m_factors_euclid_nextOfFirst_b m_factors_euclid_nextOfSecond_a m_factors_euclid_nextOfSecond_b m_factors_euclid_q_a m_factors_euclid_q_b m_factors_euclid_quotientA m_factors_euclid_quotientB m_factors_left_a m_factors_left_b m_factors_found_a m_factors_found_b m_factors_product_a m_factors_product_b m_primes_count m_primes_primeA m_primes_primeB m_primes_found_a m_primes_found_b m_rings_foundA m_rings_foundB m_rings_all m_rings_mostOfOneRow m_letters_count m_letters_bytes m_three_a m_three_b m_four_a m_four_b m_spare_a m_spare_b m_marks R  y53.1 y53.2.1 y53.2.2.1 y53.2.2.2.1 y53.2.2.2.2.1 y53.2.2.2.2.2.1 y53.2.2.2.2.2.2.1 y53.2.2.2.2.2.2.2.1 y53.2.2.2.2.2.2.2.2.1 y53.2.2.2.2.2.2.2.2.2.1 y53.2.2.2.2.2.2.2.2.2.2.1 y53.2.2.2.2.2.2.2.2.2.2.2.1 y53.2.2.2.2.2.2.2.2.2.2.2.2.1 y53.2.2.2.2.2.2.2.2.2.2.2.2.2.1 y53.2.2.2.2.2.2.2.2.2.2.2.2.2.2.1 y53.2.2.2.2.2.2.2.2.2.2.2.2.2.2.2.1 y53.2.2.2.2.2.2.2.2.2.2.2.2.2.2.2.2 y32.2.1 y32.2.2.1 y32.2.2.2.1 y32.2.2.2.2 m_out_a m_out_b v4 _ _ _ X (lv_sub hl [1, 5] rfl) hf
        refine x_tableOut 156 C dX10_parting_99 (by have hn0 := lv_neT (a := 0) hs0 (by decide); have hn1 := lv_neT (a := 1) hs1 (by decide); have hn2 := lv_neT (a := 2) hs2 (by decide); have hn3 := lv_neT (a := 3) hs3 (by decide); omega) rfl ?_
        refine x_aload_n 157 C dX10_parting_156 hl 1 rfl rfl ?_
        refine x_get 160 C dX10_parting_157 X kf_X10_28 0 rfl rfl rfl ?_
        refine x_get 163 C dX10_parting_160 X kf_X10_365 9 rfl rfl rfl ?_
        refine x_iload 165 C dX10_parting_163 hl 5 rfl rfl ?_
        refine x_iconst 166 C dX10_parting_165 (4 : Int32) kv_iconst_4 rfl ?_
        refine x_isub 167 C dX10_parting_166 rfl ?_
        obtain ⟨y167, hy167, hf⟩ := kx_bind hf
        refine x_callSi 170 C dX10_parting_167 X hl kl_X10_273 (c_X10_part E.2.1 D T (h 12) (v4 - (4 : Int32)) y53.2.2.2.2.2.1 y53.2.2.2.2.2.2.1 y167 hy167) [] rfl rfl rfl rfl rfl cb_123 rfl (fun H locs X => ?_)
        obtain rfl := Option.some.inj hf
        exact R _ _ _ _ X dX10_parting_170
      refine x_aload_n 76 C dX10_parting_75 hl 1 rfl rfl ?_
      refine x_get 79 C dX10_parting_76 X kf_X10_28 0 rfl rfl rfl ?_
      refine x_iload_n 80 C dX10_parting_79 hl 4 rfl rfl ?_
      refine x_aload_n 81 C dX10_parting_80 hl 1 rfl rfl ?_
      refine x_get 84 C dX10_parting_81 X kf_X10_83 0 rfl rfl rfl ?_
      obtain ⟨y84, hy84, hf⟩ := kx_bind hf
      refine x_callVv 87 C dX10_parting_84 X hl kl_X10_359 (c_X1_loadQuotient E.2.1 D T (h 9) (h 10) (h 11) (h 12) (h 13) (h 14) (h 15) (h 16) (h 17) (h 18) (h 49) v3 y53.1 y53.2.2.2.2.2.2.2.2.2.2.2.2.2.2.2.1 y53.2.2.2.2.2.2.2.2.2.2.2.2.2.2.2.2 m_out_a m_out_b y84 hy84) rfl rfl [] rfl rfl rfl rfl rfl cb_124 rfl (fun H locs X => ?_)
      refine x_aload_n 88 C dX10_parting_87 hl 1 rfl rfl ?_
      refine x_get 91 C dX10_parting_88 X kf_X10_83 0 rfl rfl rfl ?_
      refine x_iload 93 C dX10_parting_91 hl 5 rfl rfl ?_
      obtain ⟨y93, hy93, hf⟩ := kx_bind hf
      refine x_callSi 96 C dX10_parting_93 X hl kl_X10_273 (c_X10_part E.2.1 D T (h 49) v4 y84.1 y84.2 y93 hy93) [] rfl rfl rfl rfl rfl cb_73 rfl (fun H locs X => ?_)
      obtain rfl := Option.some.inj hf
      exact R _ _ _ _ X dX10_parting_96
    refine x_ldc 69 C dX10_parting_67 (-2147483648 : Int32) kc_X10_140 rfl ?_
    obtain rfl := Option.some.inj hf
    exact R _ _ _ _ X dX10_parting_69
  refine x_ldc 40 C dX10_parting_38 (-2147483648 : Int32) kc_X10_140 rfl ?_
  obtain rfl := Option.some.inj hf
  exact R _ _ _ _ X dX10_parting_40
set_option maxHeartbeats 4000000 in
set_option maxRecDepth 100000 in
theorem c_X10_parting (l : Launch) (D : va_G) (T : KT) (h : Nat → Nat) (N : Nat) (v1 v2 v3 v4 : Int32) (m_drawers_full m_drawers_kept : Int32) (m_drawers_partA m_drawers_partB m_drawers_keptA m_drawers_keptB m_drawers_keptFull : Nat → Int32) (m_tape_size m_tape_plain m_tape_omegas m_tape_end m_tape_place m_tape_plainTold m_tape_omegasTold : Int32) (m_tape_bytes : Nat → Int32) (m_euclid_count : Int32) (m_euclid_last_a m_euclid_last_b m_euclid_lastOfFirst_a m_euclid_lastOfFirst_b m_euclid_lastOfSecond_a m_euclid_lastOfSecond_b m_euclid_next_a m_euclid_next_b m_euclid_nextOfFirst_a m_euclid_nextOfFirst_b m_euclid_nextOfSecond_a m_euclid_nextOfSecond_b m_euclid_q_a m_euclid_q_b : Int64) (m_euclid_quotientA m_euclid_quotientB : Nat → Int64) (m_modulus_step m_modulus_width m_modulus_slant m_modulus_square_a m_modulus_square_b : Int64) (m_factors_count m_factors_threes m_factors_unit : Int32) (m_factors_primeA m_factors_primeB m_factors_norms : Nat → Int64) (m_factors_euclid_count : Int32) (m_factors_euclid_last_a m_factors_euclid_last_b m_factors_euclid_lastOfFirst_a m_factors_euclid_lastOfFirst_b m_factors_euclid_lastOfSecond_a m_factors_euclid_lastOfSecond_b m_factors_euclid_next_a m_factors_euclid_next_b m_factors_euclid_nextOfFirst_a m_factors_euclid_nextOfFirst_b m_factors_euclid_nextOfSecond_a m_factors_euclid_nextOfSecond_b m_factors_euclid_q_a m_factors_euclid_q_b : Int64) (m_factors_euclid_quotientA m_factors_euclid_quotientB : Nat → Int64) (m_factors_left_a m_factors_left_b m_factors_found_a m_factors_found_b m_factors_product_a m_factors_product_b : Int64) (m_primes_count : Int32) (m_primes_primeA m_primes_primeB : Nat → Int32) (m_primes_found_a m_primes_found_b : Int64) (m_rings_foundA m_rings_foundB m_rings_all m_rings_mostOfOneRow m_letters_count : Int32) (m_letters_bytes : Nat → Int32) (m_one_a m_one_b m_two_a m_two_b m_three_a m_three_b m_four_a m_four_b m_out_a m_out_b m_spare_a m_spare_b : Int64) (m_marks : Nat → Int32) (x : Int32 × Int32 × Int64 × Int64 × Int64 × Int64 × Int64 × Int64 × Int64 × Int64 × Int64 × Int64 × Int64 × Int64 × Int64 × Int64 × (Nat → Int64) × (Nat → Int64) × Int64 × Int64 × Int64 × Int64 × Int64 × Int64) (hf : f_X10_parting N v1 v2 v3 v4 m_drawers_full m_drawers_partA m_drawers_partB m_euclid_count m_euclid_last_a m_euclid_last_b m_euclid_lastOfFirst_a m_euclid_lastOfFirst_b m_euclid_lastOfSecond_a m_euclid_lastOfSecond_b m_euclid_next_a m_euclid_next_b m_euclid_nextOfFirst_a m_euclid_nextOfFirst_b m_euclid_nextOfSecond_a m_euclid_nextOfSecond_b m_euclid_q_a m_euclid_q_b m_euclid_quotientA m_euclid_quotientB m_one_a m_one_b m_two_a m_two_b m_out_a m_out_b = some x) : kx_MI l yX10_parting cX10_parting 6 (some .int) 3 76 D T [.ref (h 0), .int v1, .int v2, .int v3, .int v4] (wC T h m_drawers_full m_drawers_kept m_drawers_partA m_drawers_partB m_drawers_keptA m_drawers_keptB m_drawers_keptFull m_tape_size m_tape_plain m_tape_omegas m_tape_end m_tape_place m_tape_plainTold m_tape_omegasTold m_tape_bytes m_euclid_count m_euclid_last_a m_euclid_last_b m_euclid_lastOfFirst_a m_euclid_lastOfFirst_b m_euclid_lastOfSecond_a m_euclid_lastOfSecond_b m_euclid_next_a m_euclid_next_b m_euclid_nextOfFirst_a m_euclid_nextOfFirst_b m_euclid_nextOfSecond_a m_euclid_nextOfSecond_b m_euclid_q_a m_euclid_q_b m_euclid_quotientA m_euclid_quotientB m_modulus_step m_modulus_width m_modulus_slant m_modulus_square_a m_modulus_square_b m_factors_count m_factors_threes m_factors_unit m_factors_primeA m_factors_primeB m_factors_norms m_factors_euclid_count m_factors_euclid_last_a m_factors_euclid_last_b m_factors_euclid_lastOfFirst_a m_factors_euclid_lastOfFirst_b m_factors_euclid_lastOfSecond_a m_factors_euclid_lastOfSecond_b m_factors_euclid_next_a m_factors_euclid_next_b m_factors_euclid_nextOfFirst_a m_factors_euclid_nextOfFirst_b m_factors_euclid_nextOfSecond_a m_factors_euclid_nextOfSecond_b m_factors_euclid_q_a m_factors_euclid_q_b m_factors_euclid_quotientA m_factors_euclid_quotientB m_factors_left_a m_factors_left_b m_factors_found_a m_factors_found_b m_factors_product_a m_factors_product_b m_primes_count m_primes_primeA m_primes_primeB m_primes_found_a m_primes_found_b m_rings_foundA m_rings_foundB m_rings_all m_rings_mostOfOneRow m_letters_count m_letters_bytes m_one_a m_one_b m_two_a m_two_b m_three_a m_three_b m_four_a m_four_b m_out_a m_out_b m_spare_a m_spare_b m_marks) (wC T h m_drawers_full m_drawers_kept m_drawers_partA m_drawers_partB m_drawers_keptA m_drawers_keptB m_drawers_keptFull m_tape_size m_tape_plain m_tape_omegas m_tape_end m_tape_place m_tape_plainTold m_tape_omegasTold m_tape_bytes x.2.1 x.2.2.1 x.2.2.2.1 x.2.2.2.2.1 x.2.2.2.2.2.1 x.2.2.2.2.2.2.1 x.2.2.2.2.2.2.2.1 x.2.2.2.2.2.2.2.2.1 x.2.2.2.2.2.2.2.2.2.1 x.2.2.2.2.2.2.2.2.2.2.1 x.2.2.2.2.2.2.2.2.2.2.2.1 x.2.2.2.2.2.2.2.2.2.2.2.2.1 x.2.2.2.2.2.2.2.2.2.2.2.2.2.1 x.2.2.2.2.2.2.2.2.2.2.2.2.2.2.1 x.2.2.2.2.2.2.2.2.2.2.2.2.2.2.2.1 x.2.2.2.2.2.2.2.2.2.2.2.2.2.2.2.2.1 x.2.2.2.2.2.2.2.2.2.2.2.2.2.2.2.2.2.1 m_modulus_step m_modulus_width m_modulus_slant m_modulus_square_a m_modulus_square_b m_factors_count m_factors_threes m_factors_unit m_factors_primeA m_factors_primeB m_factors_norms m_factors_euclid_count m_factors_euclid_last_a m_factors_euclid_last_b m_factors_euclid_lastOfFirst_a m_factors_euclid_lastOfFirst_b m_factors_euclid_lastOfSecond_a m_factors_euclid_lastOfSecond_b m_factors_euclid_next_a m_factors_euclid_next_b m_factors_euclid_nextOfFirst_a m_factors_euclid_nextOfFirst_b m_factors_euclid_nextOfSecond_a m_factors_euclid_nextOfSecond_b m_factors_euclid_q_a m_factors_euclid_q_b m_factors_euclid_quotientA m_factors_euclid_quotientB m_factors_left_a m_factors_left_b m_factors_found_a m_factors_found_b m_factors_product_a m_factors_product_b m_primes_count m_primes_primeA m_primes_primeB m_primes_found_a m_primes_found_b m_rings_foundA m_rings_foundB m_rings_all m_rings_mostOfOneRow m_letters_count m_letters_bytes x.2.2.2.2.2.2.2.2.2.2.2.2.2.2.2.2.2.2.1 x.2.2.2.2.2.2.2.2.2.2.2.2.2.2.2.2.2.2.2.1 x.2.2.2.2.2.2.2.2.2.2.2.2.2.2.2.2.2.2.2.2.1 x.2.2.2.2.2.2.2.2.2.2.2.2.2.2.2.2.2.2.2.2.2.1 m_three_a m_three_b m_four_a m_four_b x.2.2.2.2.2.2.2.2.2.2.2.2.2.2.2.2.2.2.2.2.2.2.1 x.2.2.2.2.2.2.2.2.2.2.2.2.2.2.2.2.2.2.2.2.2.2.2 m_spare_a m_spare_b m_marks) x.1 := by
  refine kx_ofMI RX10 rfl (plainFor_of_name (x := yX10_parting) kpn_X10) rfl ?_
  intro E A H ls _ C X R hl
  have hl : lv_has ls 6 [(0, .ref (h 0)), (1, .int v1), (2, .int v2), (3, .int v3), (4, .int v4)] := hl
  rw [f_X10_parting] at hf
  refine x_iload_n 1 C dX10_parting_0 hl 3 rfl rfl ?_
  refine x_iconst 2 C dX10_parting_1 (-1 : Int32) kv_iconst_m1 rfl ?_
  refine x_icmp_ne 9 5 C dX10_parting_2 rfl rfl hf (fun hf => ?_) (fun hf => ?_)
  · refine x_iconst 10 C dX10_parting_9 (1 : Int32) kv_iconst_1 rfl ?_
    exact w_X10_parting_10 h C N x m_drawers_full m_drawers_kept m_drawers_partA m_drawers_partB m_drawers_keptA m_drawers_keptB m_drawers_keptFull m_tape_size m_tape_plain m_tape_omegas m_tape_end m_tape_place m_tape_plainTold m_tape_omegasTold m_tape_bytes m_modulus_step m_modulus_width m_modulus_slant m_modulus_square_a m_modulus_square_b m_factors_count m_factors_threes m_factors_unit m_factors_primeA m_factors_primeB m_factors_norms m_factors_euclid_count m_factors_euclid_last_a m_factors_euclid_last_b m_factors_euclid_lastOfFirst_a m_factors_euclid_lastOfFirst_b m_factors_euclid_lastOfSecond_a m_factors_euclid_lastOfSecond_b m_factors_euclid_next_a m_factors_euclid_next_b m_factors_euclid_nextOfFirst_a m_factors_euclid_nextOfFirst_b m_factors_euclid_nextOfSecond_a m_factors_euclid_nextOfSecond_b m_factors_euclid_q_a m_factors_euclid_q_b m_factors_euclid_quotientA m_factors_euclid_quotientB m_factors_left_a m_factors_left_b m_factors_found_a m_factors_found_b m_factors_product_a m_factors_product_b m_primes_count m_primes_primeA m_primes_primeB m_primes_found_a m_primes_found_b m_rings_foundA m_rings_foundB m_rings_all m_rings_mostOfOneRow m_letters_count m_letters_bytes m_three_a m_three_b m_four_a m_four_b m_spare_a m_spare_b m_marks R  m_euclid_count m_euclid_last_a m_euclid_last_b m_euclid_lastOfFirst_a m_euclid_lastOfFirst_b m_euclid_lastOfSecond_a m_euclid_lastOfSecond_b m_euclid_next_a m_euclid_next_b m_euclid_nextOfFirst_a m_euclid_nextOfFirst_b m_euclid_nextOfSecond_a m_euclid_nextOfSecond_b m_euclid_q_a m_euclid_q_b m_euclid_quotientA m_euclid_quotientB m_one_a m_one_b m_two_a m_two_b m_out_a m_out_b v1 v2 v3 v4 (1 : Int32) _ _ _ X (lv_sub hl [0, 1, 2, 3, 4] rfl) hf
  refine x_iconst 6 C dX10_parting_5 (5 : Int32) kv_iconst_5 rfl ?_
  refine x_goto 10 C dX10_parting_6 rfl ?_
  exact w_X10_parting_10 h C N x m_drawers_full m_drawers_kept m_drawers_partA m_drawers_partB m_drawers_keptA m_drawers_keptB m_drawers_keptFull m_tape_size m_tape_plain m_tape_omegas m_tape_end m_tape_place m_tape_plainTold m_tape_omegasTold m_tape_bytes m_modulus_step m_modulus_width m_modulus_slant m_modulus_square_a m_modulus_square_b m_factors_count m_factors_threes m_factors_unit m_factors_primeA m_factors_primeB m_factors_norms m_factors_euclid_count m_factors_euclid_last_a m_factors_euclid_last_b m_factors_euclid_lastOfFirst_a m_factors_euclid_lastOfFirst_b m_factors_euclid_lastOfSecond_a m_factors_euclid_lastOfSecond_b m_factors_euclid_next_a m_factors_euclid_next_b m_factors_euclid_nextOfFirst_a m_factors_euclid_nextOfFirst_b m_factors_euclid_nextOfSecond_a m_factors_euclid_nextOfSecond_b m_factors_euclid_q_a m_factors_euclid_q_b m_factors_euclid_quotientA m_factors_euclid_quotientB m_factors_left_a m_factors_left_b m_factors_found_a m_factors_found_b m_factors_product_a m_factors_product_b m_primes_count m_primes_primeA m_primes_primeB m_primes_found_a m_primes_found_b m_rings_foundA m_rings_foundB m_rings_all m_rings_mostOfOneRow m_letters_count m_letters_bytes m_three_a m_three_b m_four_a m_four_b m_spare_a m_spare_b m_marks R  m_euclid_count m_euclid_last_a m_euclid_last_b m_euclid_lastOfFirst_a m_euclid_lastOfFirst_b m_euclid_lastOfSecond_a m_euclid_lastOfSecond_b m_euclid_next_a m_euclid_next_b m_euclid_nextOfFirst_a m_euclid_nextOfFirst_b m_euclid_nextOfSecond_a m_euclid_nextOfSecond_b m_euclid_q_a m_euclid_q_b m_euclid_quotientA m_euclid_quotientB m_one_a m_one_b m_two_a m_two_b m_out_a m_out_b v1 v2 v3 v4 (5 : Int32) _ _ _ X (lv_sub hl [0, 1, 2, 3, 4] rfl) hf
set_option maxHeartbeats 4000000 in
set_option maxRecDepth 100000 in
theorem w_X11_parting_44 {E : KE} {A : Nat → Prop} {D : va_G} {T : KT} (h : Nat → Nat) (C : kx_C E cX11_parting 5 (some .int) RX11 4 135 D T) (N : Nat) (x : Int32 × Int64 × Int64 × Int32 × Int64 × Int64 × Int64 × Int64 × Int64 × Int64 × Int64 × Int64) (m_taped m_states m_threes m_primes m_ones m_unit : Int32) (m_allParts m_allNorms m_allClasses : Int64) (m_odd : Int32) (m_boxWide m_boxHigh m_boxStep : Int64) (m_listed m_tells m_wanted m_found : Int32) (m_bits : Int64) (m_power2 m_rings m_ringA m_ringB m_seedNow : Int32) (m_tape m_has m_keptHas m_first m_second m_keptFirst m_keptSecond m_pa m_pb m_pNorm m_cubed m_isOpen m_signs m_often m_la0 m_lb0 : Nat → Int32) (R : kx_RI E cX11_parting D A (wM T h m_taped m_states x.2.1 x.2.2.1 m_threes m_primes m_ones m_unit m_allParts m_allNorms m_allClasses m_odd m_boxWide m_boxHigh m_boxStep x.2.2.2.1 x.2.2.2.2.1 x.2.2.2.2.2.1 x.2.2.2.2.2.2.1 x.2.2.2.2.2.2.2.1 x.2.2.2.2.2.2.2.2.1 x.2.2.2.2.2.2.2.2.2.1 x.2.2.2.2.2.2.2.2.2.2.1 x.2.2.2.2.2.2.2.2.2.2.2 m_listed m_tells m_wanted m_found m_bits m_power2 m_rings m_ringA m_ringB m_seedNow m_tape m_has m_keptHas m_first m_second m_keptFirst m_keptSecond m_pa m_pb m_pNorm m_cubed m_isOpen m_signs m_often m_la0 m_lb0) x.1) : ∀ (m_ra m_rb : Int64) (m_partingMany : Int32) (m_qa m_qb m_la m_lb m_sa m_sb m_ta m_tb : Int64) (v1 v2 v3 v4 : Int32) (s0 s1 s2 : Int64) (H : Heap) (locs : List Loc) (ls : Array Slot), kx_H E D A H locs (wM T h m_taped m_states m_ra m_rb m_threes m_primes m_ones m_unit m_allParts m_allNorms m_allClasses m_odd m_boxWide m_boxHigh m_boxStep m_partingMany m_qa m_qb m_la m_lb m_sa m_sb m_ta m_tb m_listed m_tells m_wanted m_found m_bits m_power2 m_rings m_ringA m_ringB m_seedNow m_tape m_has m_keptHas m_first m_second m_keptFirst m_keptSecond m_pa m_pb m_pNorm m_cubed m_isOpen m_signs m_often m_la0 m_lb0) → lv_has ls 5 [(0, .ref (h 0)), (1, .int v1), (2, .int v2), (3, .int v3), (4, .int v4)] → f_X11_parting_44 N v1 v2 v3 v4 s0 s1 s2 m_ra m_rb m_partingMany m_qa m_qb m_la m_lb m_sa m_sb m_ta m_tb m_first m_second = some x → kx_W E H locs 44 ls [.long s2, .long s1, .long s0] := by
  intro m_ra m_rb m_partingMany m_qa m_qb m_la m_lb m_sa m_sb m_ta m_tb v1 v2 v3 v4 s0 s1 s2 H locs ls X hl hf
  rw [f_X11_parting_44] at hf
  obtain ⟨y44, hy44, hf⟩ := kx_bind hf
  refine x_callSi 47 C dX11_parting_44 X hl kl_X11_77 (c_X11_in E.2.1 D T  s0 s1 s2  y44 hy44) [] rfl rfl rfl rfl rfl cb_7 rfl (fun H locs X => ?_)
  refine x_if_ne 53 50 C dX11_parting_47 rfl rfl hf (fun hf => ?_) (fun hf => ?_)
  · refine x_aload_n 54 C dX11_parting_53 hl 0 rfl rfl ?_
    refine x_aload_n 55 C dX11_parting_54 hl 0 rfl rfl ?_
    refine x_get 58 C dX11_parting_55 X kf_X11_20 0 rfl rfl rfl ?_
    refine x_iload_n 59 C dX11_parting_58 hl 1 rfl rfl ?_
    refine x_iald 60 C dX11_parting_59 X 4 rfl hf rfl (fun hf => ?_)
    refine x_i2l 61 C dX11_parting_60 rfl ?_
    refine x_aload_n 62 C dX11_parting_61 hl 0 rfl rfl ?_
    refine x_get 65 C dX11_parting_62 X kf_X11_24 0 rfl rfl rfl ?_
    refine x_iload_n 66 C dX11_parting_65 hl 1 rfl rfl ?_
    refine x_iald 67 C dX11_parting_66 X 5 rfl hf rfl (fun hf => ?_)
    refine x_i2l 68 C dX11_parting_67 rfl ?_
    refine x_aload_n 69 C dX11_parting_68 hl 0 rfl rfl ?_
    refine x_get 72 C dX11_parting_69 X kf_X11_20 0 rfl rfl rfl ?_
    refine x_iload_n 73 C dX11_parting_72 hl 2 rfl rfl ?_
    refine x_iald 74 C dX11_parting_73 X 4 rfl hf rfl (fun hf => ?_)
    refine x_i2l 75 C dX11_parting_74 rfl ?_
    refine x_aload_n 76 C dX11_parting_75 hl 0 rfl rfl ?_
    refine x_get 79 C dX11_parting_76 X kf_X11_24 0 rfl rfl rfl ?_
    refine x_iload_n 80 C dX11_parting_79 hl 2 rfl rfl ?_
    refine x_iald 81 C dX11_parting_80 X 5 rfl hf rfl (fun hf => ?_)
    refine x_i2l 82 C dX11_parting_81 rfl ?_
    refine x_iload_n 83 C dX11_parting_82 hl 3 rfl rfl ?_
    obtain ⟨y83, hy83, hf⟩ := kx_bind hf
    refine x_callVv0 86 C dX11_parting_83 X hl kl_X11_311 (c_X11_parted E.2.1 D T h N ((m_first (v1).toNatClampNeg)).toInt64 ((m_second (v1).toNatClampNeg)).toInt64 ((m_first (v2).toNatClampNeg)).toInt64 ((m_second (v2).toNatClampNeg)).toInt64 v3 m_taped m_states m_ra m_rb m_threes m_primes m_ones m_unit m_allParts m_allNorms m_allClasses m_odd m_boxWide m_boxHigh m_boxStep m_partingMany m_qa m_qb m_la m_lb m_sa m_sb m_ta m_tb m_listed m_tells m_wanted m_found m_bits m_power2 m_rings m_ringA m_ringB m_seedNow m_tape m_has m_keptHas m_first m_second m_keptFirst m_keptSecond m_pa m_pb m_pNorm m_cubed m_isOpen m_signs m_often m_la0 m_lb0 y83 hy83) rfl rfl [] rfl rfl rfl rfl rfl rfl (fun H locs X => ?_)
    refine x_iload_n 87 C dX11_parting_86 hl 3 rfl rfl ?_
    refine x_aload_n 88 C dX11_parting_87 hl 0 rfl rfl ?_
    refine x_get 91 C dX11_parting_88 X kf_X11_296 0 rfl rfl rfl ?_
    refine x_icmp_lt 97 94 C dX11_parting_91 rfl rfl hf (fun hf => ?_) (fun hf => ?_)
    · refine x_iload_n 98 C dX11_parting_97 hl 3 rfl rfl ?_
      refine x_if_lt 119 101 C dX11_parting_98 rfl rfl hf (fun hf => ?_) (fun hf => ?_)
      · refine x_iload 121 C dX11_parting_119 hl 4 rfl rfl ?_
        refine kx_sw hf (fun hs0 hf => ?_) (fun hs0 hf => ?_)
        · refine x_table (off := 35) 156 C dX11_parting_121 (0 : Int32) hs0 (by decide) (by decide) (by decide) rfl ?_
          refine x_aload_n 157 C dX11_parting_156 hl 0 rfl rfl ?_
          refine x_get 160 C dX11_parting_157 X kf_X11_305 0 rfl rfl rfl ?_
          refine x_l2i 161 C dX11_parting_160 rfl ?_
          obtain rfl := Option.some.inj hf
          exact R _ _ _ _ X dX11_parting_161
        refine kx_sw hf (fun hs1 hf => ?_) (fun hs1 hf => ?_)
        · refine x_table (off := 41) 162 C dX11_parting_121 (1 : Int32) hs1 (by decide) (by decide) (by decide) rfl ?_
          refine x_aload_n 163 C dX11_parting_162 hl 0 rfl rfl ?_
          refine x_get 166 C dX11_parting_163 X kf_X11_308 0 rfl rfl rfl ?_
          refine x_l2i 167 C dX11_parting_166 rfl ?_
          obtain rfl := Option.some.inj hf
          exact R _ _ _ _ X dX11_parting_167
        refine kx_sw hf (fun hs2 hf => ?_) (fun hs2 hf => ?_)
        · refine x_table (off := 47) 168 C dX11_parting_121 (2 : Int32) hs2 (by decide) (by decide) (by decide) rfl ?_
          refine x_aload_n 169 C dX11_parting_168 hl 0 rfl rfl ?_
          refine x_get 172 C dX11_parting_169 X kf_X11_284 0 rfl rfl rfl ?_
          refine x_l2i 173 C dX11_parting_172 rfl ?_
          obtain rfl := Option.some.inj hf
          exact R _ _ _ _ X dX11_parting_173
        refine kx_sw hf (fun hs3 hf => ?_) (fun hs3 hf => ?_)
        · refine x_table (off := 53) 174 C dX11_parting_121 (3 : Int32) hs3 (by decide) (by decide) (by decide) rfl ?_
          refine x_aload_n 175 C dX11_parting_174 hl 0 rfl rfl ?_
          refine x_get 178 C dX11_parting_175 X kf_X11_287 0 rfl rfl rfl ?_
          refine x_l2i 179 C dX11_parting_178 rfl ?_
          obtain rfl := Option.some.inj hf
          exact R _ _ _ _ X dX11_parting_179
        refine kx_sw hf (fun hs4 hf => ?_) (fun hs4 hf => ?_)
        · refine x_table (off := 59) 180 C dX11_parting_121 (4 : Int32) hs4 (by decide) (by decide) (by decide) rfl ?_
          refine x_aload_n 181 C dX11_parting_180 hl 0 rfl rfl ?_
          refine x_get 184 C dX11_parting_181 X kf_X11_290 0 rfl rfl rfl ?_
          refine x_l2i 185 C dX11_parting_184 rfl ?_
          obtain rfl := Option.some.inj hf
          exact R _ _ _ _ X dX11_parting_185
        refine x_tableOut 186 C dX11_parting_121 (by have hn0 := lv_neT (a := 0) hs0 (by decide); have hn1 := lv_neT (a := 1) hs1 (by decide); have hn2 := lv_neT (a := 2) hs2 (by decide); have hn3 := lv_neT (a := 3) hs3 (by decide); have hn4 := lv_neT (a := 4) hs4 (by decide); omega) rfl ?_
        refine x_aload_n 187 C dX11_parting_186 hl 0 rfl rfl ?_
        refine x_get 190 C dX11_parting_187 X kf_X11_293 0 rfl rfl rfl ?_
        refine x_l2i 191 C dX11_parting_190 rfl ?_
        obtain rfl := Option.some.inj hf
        exact R _ _ _ _ X dX11_parting_191
      refine x_iload 103 C dX11_parting_101 hl 4 rfl rfl ?_
      refine x_if_ne 113 106 C dX11_parting_103 rfl rfl hf (fun hf => ?_) (fun hf => ?_)
      · refine x_aload_n 114 C dX11_parting_113 hl 0 rfl rfl ?_
        refine x_get 117 C dX11_parting_114 X kf_X11_302 0 rfl rfl rfl ?_
        refine x_l2i 118 C dX11_parting_117 rfl ?_
        obtain rfl := Option.some.inj hf
        exact R _ _ _ _ X dX11_parting_118
      refine x_aload_n 107 C dX11_parting_106 hl 0 rfl rfl ?_
      refine x_get 110 C dX11_parting_107 X kf_X11_299 0 rfl rfl rfl ?_
      refine x_goto 117 C dX11_parting_110 rfl ?_
      refine x_l2i 118 C dX11_parting_117 rfl ?_
      obtain rfl := Option.some.inj hf
      exact R _ _ _ _ X dX11_parting_118
    refine x_ldc 96 C dX11_parting_94 (-2147483648 : Int32) kc_X11_164 rfl ?_
    obtain rfl := Option.some.inj hf
    exact R _ _ _ _ X dX11_parting_96
  refine x_ldc 52 C dX11_parting_50 (-2147483648 : Int32) kc_X11_164 rfl ?_
  obtain rfl := Option.some.inj hf
  exact R _ _ _ _ X dX11_parting_52
set_option maxHeartbeats 4000000 in
set_option maxRecDepth 100000 in
theorem c_X11_parting (l : Launch) (D : va_G) (T : KT) (h : Nat → Nat) (N : Nat) (v1 v2 v3 v4 : Int32) (m_taped m_states : Int32) (m_ra m_rb : Int64) (m_threes m_primes m_ones m_unit : Int32) (m_allParts m_allNorms m_allClasses : Int64) (m_odd : Int32) (m_boxWide m_boxHigh m_boxStep : Int64) (m_partingMany : Int32) (m_qa m_qb m_la m_lb m_sa m_sb m_ta m_tb : Int64) (m_listed m_tells m_wanted m_found : Int32) (m_bits : Int64) (m_power2 m_rings m_ringA m_ringB m_seedNow : Int32) (m_tape m_has m_keptHas m_first m_second m_keptFirst m_keptSecond m_pa m_pb m_pNorm m_cubed m_isOpen m_signs m_often m_la0 m_lb0 : Nat → Int32) (x : Int32 × Int64 × Int64 × Int32 × Int64 × Int64 × Int64 × Int64 × Int64 × Int64 × Int64 × Int64) (hf : f_X11_parting N v1 v2 v3 v4 m_ra m_rb m_partingMany m_qa m_qb m_la m_lb m_sa m_sb m_ta m_tb m_has m_first m_second = some x) : kx_MI l yX11_parting cX11_parting 5 (some .int) 4 135 D T [.ref (h 0), .int v1, .int v2, .int v3, .int v4] (wM T h m_taped m_states m_ra m_rb m_threes m_primes m_ones m_unit m_allParts m_allNorms m_allClasses m_odd m_boxWide m_boxHigh m_boxStep m_partingMany m_qa m_qb m_la m_lb m_sa m_sb m_ta m_tb m_listed m_tells m_wanted m_found m_bits m_power2 m_rings m_ringA m_ringB m_seedNow m_tape m_has m_keptHas m_first m_second m_keptFirst m_keptSecond m_pa m_pb m_pNorm m_cubed m_isOpen m_signs m_often m_la0 m_lb0) (wM T h m_taped m_states x.2.1 x.2.2.1 m_threes m_primes m_ones m_unit m_allParts m_allNorms m_allClasses m_odd m_boxWide m_boxHigh m_boxStep x.2.2.2.1 x.2.2.2.2.1 x.2.2.2.2.2.1 x.2.2.2.2.2.2.1 x.2.2.2.2.2.2.2.1 x.2.2.2.2.2.2.2.2.1 x.2.2.2.2.2.2.2.2.2.1 x.2.2.2.2.2.2.2.2.2.2.1 x.2.2.2.2.2.2.2.2.2.2.2 m_listed m_tells m_wanted m_found m_bits m_power2 m_rings m_ringA m_ringB m_seedNow m_tape m_has m_keptHas m_first m_second m_keptFirst m_keptSecond m_pa m_pb m_pNorm m_cubed m_isOpen m_signs m_often m_la0 m_lb0) x.1 := by
  refine kx_ofMI RX11 rfl (plainFor_of_name (x := yX11_parting) kpn_X11) rfl ?_
  intro E A H ls _ C X R hl
  have hl : lv_has ls 5 [(0, .ref (h 0)), (1, .int v1), (2, .int v2), (3, .int v3), (4, .int v4)] := hl
  rw [f_X11_parting] at hf
  refine x_iload_n 1 C dX11_parting_0 hl 1 rfl rfl ?_
  obtain ⟨y1, hy1, hf⟩ := kx_bind hf
  refine x_callSi 4 C dX11_parting_1 X hl kl_X11_85 (c_X11_isDrawer E.2.1 D T  v1  y1 hy1) [] rfl rfl rfl rfl rfl cb_7 rfl (fun H locs X => ?_)
  refine x_if_eq 50 7 C dX11_parting_4 rfl rfl hf (fun hf => ?_) (fun hf => ?_)
  · refine x_ldc 52 C dX11_parting_50 (-2147483648 : Int32) kc_X11_164 rfl ?_
    obtain rfl := Option.some.inj hf
    exact R _ _ _ _ X dX11_parting_52
  refine x_iload_n 8 C dX11_parting_7 hl 2 rfl rfl ?_
  obtain ⟨y8, hy8, hf⟩ := kx_bind hf
  refine x_callSi 11 C dX11_parting_8 X hl kl_X11_85 (c_X11_isDrawer E.2.1 D T  v2  y8 hy8) [] rfl rfl rfl rfl rfl cb_7 rfl (fun H locs X => ?_)
  refine x_if_eq 50 14 C dX11_parting_11 rfl rfl hf (fun hf => ?_) (fun hf => ?_)
  · refine x_ldc 52 C dX11_parting_50 (-2147483648 : Int32) kc_X11_164 rfl ?_
    obtain rfl := Option.some.inj hf
    exact R _ _ _ _ X dX11_parting_52
  refine x_aload_n 15 C dX11_parting_14 hl 0 rfl rfl ?_
  refine x_iload_n 16 C dX11_parting_15 hl 1 rfl rfl ?_
  refine x_iload_n 17 C dX11_parting_16 hl 2 rfl rfl ?_
  obtain ⟨y17, hy17, hf⟩ := kx_bind hf
  refine x_callVi0 20 C dX11_parting_17 X hl kl_X11_269 (c_X11_hasBoth E.2.1 D T h v1 v2 m_taped m_states m_ra m_rb m_threes m_primes m_ones m_unit m_allParts m_allNorms m_allClasses m_odd m_boxWide m_boxHigh m_boxStep m_partingMany m_qa m_qb m_la m_lb m_sa m_sb m_ta m_tb m_listed m_tells m_wanted m_found m_bits m_power2 m_rings m_ringA m_ringB m_seedNow m_tape m_has m_keptHas m_first m_second m_keptFirst m_keptSecond m_pa m_pb m_pNorm m_cubed m_isOpen m_signs m_often m_la0 m_lb0 y17 hy17) rfl rfl [] rfl rfl rfl rfl rfl rfl (fun H locs X => ?_)
  refine x_if_eq 50 23 C dX11_parting_20 rfl rfl hf (fun hf => ?_) (fun hf => ?_)
  · refine x_ldc 52 C dX11_parting_50 (-2147483648 : Int32) kc_X11_164 rfl ?_
    obtain rfl := Option.some.inj hf
    exact R _ _ _ _ X dX11_parting_52
  refine x_iload_n 24 C dX11_parting_23 hl 3 rfl rfl ?_
  refine x_iconst 25 C dX11_parting_24 (-1 : Int32) kv_iconst_m1 rfl ?_
  refine x_icmp_lt 50 28 C dX11_parting_25 rfl rfl hf (fun hf => ?_) (fun hf => ?_)
  · refine x_ldc 52 C dX11_parting_50 (-2147483648 : Int32) kc_X11_164 rfl ?_
    obtain rfl := Option.some.inj hf
    exact R _ _ _ _ X dX11_parting_52
  refine x_iload 30 C dX11_parting_28 hl 4 rfl rfl ?_
  refine x_i2l 31 C dX11_parting_30 rfl ?_
  refine x_lconst 32 C dX11_parting_31 (0 : Int64) kv_lconst_0 rfl ?_
  refine x_iload_n 33 C dX11_parting_32 hl 3 rfl rfl ?_
  refine x_iconst 34 C dX11_parting_33 (-1 : Int32) kv_iconst_m1 rfl ?_
  refine x_icmp_ne 43 37 C dX11_parting_34 rfl rfl hf (fun hf => ?_) (fun hf => ?_)
  · refine x_lconst 44 C dX11_parting_43 (1 : Int64) kv_lconst_1 rfl ?_
    exact w_X11_parting_44 h C N x m_taped m_states m_threes m_primes m_ones m_unit m_allParts m_allNorms m_allClasses m_odd m_boxWide m_boxHigh m_boxStep m_listed m_tells m_wanted m_found m_bits m_power2 m_rings m_ringA m_ringB m_seedNow m_tape m_has m_keptHas m_first m_second m_keptFirst m_keptSecond m_pa m_pb m_pNorm m_cubed m_isOpen m_signs m_often m_la0 m_lb0 R  m_ra m_rb m_partingMany m_qa m_qb m_la m_lb m_sa m_sb m_ta m_tb v1 v2 v3 v4 (v4).toInt64 (0 : Int64) (1 : Int64) _ _ _ X (lv_sub hl [0, 1, 2, 3, 4] rfl) hf
  refine x_ldc2_w 40 C dX11_parting_37 (5 : Int64) kc_X11_174 rfl ?_
  refine x_goto 44 C dX11_parting_40 rfl ?_
  exact w_X11_parting_44 h C N x m_taped m_states m_threes m_primes m_ones m_unit m_allParts m_allNorms m_allClasses m_odd m_boxWide m_boxHigh m_boxStep m_listed m_tells m_wanted m_found m_bits m_power2 m_rings m_ringA m_ringB m_seedNow m_tape m_has m_keptHas m_first m_second m_keptFirst m_keptSecond m_pa m_pb m_pNorm m_cubed m_isOpen m_signs m_often m_la0 m_lb0 R  m_ra m_rb m_partingMany m_qa m_qb m_la m_lb m_sa m_sb m_ta m_tb v1 v2 v3 v4 (v4).toInt64 (0 : Int64) (5 : Int64) _ _ _ X (lv_sub hl [0, 1, 2, 3, 4] rfl) hf
set_option maxHeartbeats 4000000 in
set_option maxRecDepth 100000 in
theorem c_X10_partings (l : Launch) (D : va_G) (T : KT) (h : Nat → Nat) (N : Nat) (v1 v2 : Int32) (m_drawers_full m_drawers_kept : Int32) (m_drawers_partA m_drawers_partB m_drawers_keptA m_drawers_keptB m_drawers_keptFull : Nat → Int32) (m_tape_size m_tape_plain m_tape_omegas m_tape_end m_tape_place m_tape_plainTold m_tape_omegasTold : Int32) (m_tape_bytes : Nat → Int32) (m_euclid_count : Int32) (m_euclid_last_a m_euclid_last_b m_euclid_lastOfFirst_a m_euclid_lastOfFirst_b m_euclid_lastOfSecond_a m_euclid_lastOfSecond_b m_euclid_next_a m_euclid_next_b m_euclid_nextOfFirst_a m_euclid_nextOfFirst_b m_euclid_nextOfSecond_a m_euclid_nextOfSecond_b m_euclid_q_a m_euclid_q_b : Int64) (m_euclid_quotientA m_euclid_quotientB : Nat → Int64) (m_modulus_step m_modulus_width m_modulus_slant m_modulus_square_a m_modulus_square_b : Int64) (m_factors_count m_factors_threes m_factors_unit : Int32) (m_factors_primeA m_factors_primeB m_factors_norms : Nat → Int64) (m_factors_euclid_count : Int32) (m_factors_euclid_last_a m_factors_euclid_last_b m_factors_euclid_lastOfFirst_a m_factors_euclid_lastOfFirst_b m_factors_euclid_lastOfSecond_a m_factors_euclid_lastOfSecond_b m_factors_euclid_next_a m_factors_euclid_next_b m_factors_euclid_nextOfFirst_a m_factors_euclid_nextOfFirst_b m_factors_euclid_nextOfSecond_a m_factors_euclid_nextOfSecond_b m_factors_euclid_q_a m_factors_euclid_q_b : Int64) (m_factors_euclid_quotientA m_factors_euclid_quotientB : Nat → Int64) (m_factors_left_a m_factors_left_b m_factors_found_a m_factors_found_b m_factors_product_a m_factors_product_b : Int64) (m_primes_count : Int32) (m_primes_primeA m_primes_primeB : Nat → Int32) (m_primes_found_a m_primes_found_b : Int64) (m_rings_foundA m_rings_foundB m_rings_all m_rings_mostOfOneRow m_letters_count : Int32) (m_letters_bytes : Nat → Int32) (m_one_a m_one_b m_two_a m_two_b m_three_a m_three_b m_four_a m_four_b m_out_a m_out_b m_spare_a m_spare_b : Int64) (m_marks : Nat → Int32) (x : Int32 × Int32 × Int64 × Int64 × Int64 × Int64 × Int64 × Int64 × Int64 × Int64 × Int64 × Int64 × Int64 × Int64 × Int64 × Int64 × (Nat → Int64) × (Nat → Int64) × Int64 × Int64 × Int64 × Int64) (hf : f_X10_partings N v1 v2 m_drawers_full m_drawers_partA m_drawers_partB m_euclid_count m_euclid_last_a m_euclid_last_b m_euclid_lastOfFirst_a m_euclid_lastOfFirst_b m_euclid_lastOfSecond_a m_euclid_lastOfSecond_b m_euclid_next_a m_euclid_next_b m_euclid_nextOfFirst_a m_euclid_nextOfFirst_b m_euclid_nextOfSecond_a m_euclid_nextOfSecond_b m_euclid_q_a m_euclid_q_b m_euclid_quotientA m_euclid_quotientB m_one_a m_one_b m_two_a m_two_b = some x) : kx_MI l yX10_partings cX10_partings 4 (some .int) 3 76 D T [.ref (h 0), .int v1, .int v2] (wC T h m_drawers_full m_drawers_kept m_drawers_partA m_drawers_partB m_drawers_keptA m_drawers_keptB m_drawers_keptFull m_tape_size m_tape_plain m_tape_omegas m_tape_end m_tape_place m_tape_plainTold m_tape_omegasTold m_tape_bytes m_euclid_count m_euclid_last_a m_euclid_last_b m_euclid_lastOfFirst_a m_euclid_lastOfFirst_b m_euclid_lastOfSecond_a m_euclid_lastOfSecond_b m_euclid_next_a m_euclid_next_b m_euclid_nextOfFirst_a m_euclid_nextOfFirst_b m_euclid_nextOfSecond_a m_euclid_nextOfSecond_b m_euclid_q_a m_euclid_q_b m_euclid_quotientA m_euclid_quotientB m_modulus_step m_modulus_width m_modulus_slant m_modulus_square_a m_modulus_square_b m_factors_count m_factors_threes m_factors_unit m_factors_primeA m_factors_primeB m_factors_norms m_factors_euclid_count m_factors_euclid_last_a m_factors_euclid_last_b m_factors_euclid_lastOfFirst_a m_factors_euclid_lastOfFirst_b m_factors_euclid_lastOfSecond_a m_factors_euclid_lastOfSecond_b m_factors_euclid_next_a m_factors_euclid_next_b m_factors_euclid_nextOfFirst_a m_factors_euclid_nextOfFirst_b m_factors_euclid_nextOfSecond_a m_factors_euclid_nextOfSecond_b m_factors_euclid_q_a m_factors_euclid_q_b m_factors_euclid_quotientA m_factors_euclid_quotientB m_factors_left_a m_factors_left_b m_factors_found_a m_factors_found_b m_factors_product_a m_factors_product_b m_primes_count m_primes_primeA m_primes_primeB m_primes_found_a m_primes_found_b m_rings_foundA m_rings_foundB m_rings_all m_rings_mostOfOneRow m_letters_count m_letters_bytes m_one_a m_one_b m_two_a m_two_b m_three_a m_three_b m_four_a m_four_b m_out_a m_out_b m_spare_a m_spare_b m_marks) (wC T h m_drawers_full m_drawers_kept m_drawers_partA m_drawers_partB m_drawers_keptA m_drawers_keptB m_drawers_keptFull m_tape_size m_tape_plain m_tape_omegas m_tape_end m_tape_place m_tape_plainTold m_tape_omegasTold m_tape_bytes x.2.1 x.2.2.1 x.2.2.2.1 x.2.2.2.2.1 x.2.2.2.2.2.1 x.2.2.2.2.2.2.1 x.2.2.2.2.2.2.2.1 x.2.2.2.2.2.2.2.2.1 x.2.2.2.2.2.2.2.2.2.1 x.2.2.2.2.2.2.2.2.2.2.1 x.2.2.2.2.2.2.2.2.2.2.2.1 x.2.2.2.2.2.2.2.2.2.2.2.2.1 x.2.2.2.2.2.2.2.2.2.2.2.2.2.1 x.2.2.2.2.2.2.2.2.2.2.2.2.2.2.1 x.2.2.2.2.2.2.2.2.2.2.2.2.2.2.2.1 x.2.2.2.2.2.2.2.2.2.2.2.2.2.2.2.2.1 x.2.2.2.2.2.2.2.2.2.2.2.2.2.2.2.2.2.1 m_modulus_step m_modulus_width m_modulus_slant m_modulus_square_a m_modulus_square_b m_factors_count m_factors_threes m_factors_unit m_factors_primeA m_factors_primeB m_factors_norms m_factors_euclid_count m_factors_euclid_last_a m_factors_euclid_last_b m_factors_euclid_lastOfFirst_a m_factors_euclid_lastOfFirst_b m_factors_euclid_lastOfSecond_a m_factors_euclid_lastOfSecond_b m_factors_euclid_next_a m_factors_euclid_next_b m_factors_euclid_nextOfFirst_a m_factors_euclid_nextOfFirst_b m_factors_euclid_nextOfSecond_a m_factors_euclid_nextOfSecond_b m_factors_euclid_q_a m_factors_euclid_q_b m_factors_euclid_quotientA m_factors_euclid_quotientB m_factors_left_a m_factors_left_b m_factors_found_a m_factors_found_b m_factors_product_a m_factors_product_b m_primes_count m_primes_primeA m_primes_primeB m_primes_found_a m_primes_found_b m_rings_foundA m_rings_foundB m_rings_all m_rings_mostOfOneRow m_letters_count m_letters_bytes x.2.2.2.2.2.2.2.2.2.2.2.2.2.2.2.2.2.2.1 x.2.2.2.2.2.2.2.2.2.2.2.2.2.2.2.2.2.2.2.1 x.2.2.2.2.2.2.2.2.2.2.2.2.2.2.2.2.2.2.2.2.1 x.2.2.2.2.2.2.2.2.2.2.2.2.2.2.2.2.2.2.2.2.2 m_three_a m_three_b m_four_a m_four_b m_out_a m_out_b m_spare_a m_spare_b m_marks) x.1 := by
  refine kx_ofMI RX10 rfl (plainFor_of_name (x := yX10_partings) kpn_X10) rfl ?_
  intro E A H ls _ C X R hl
  have hl : lv_has ls 4 [(0, .ref (h 0)), (1, .int v1), (2, .int v2)] := hl
  rw [f_X10_partings] at hf
  refine x_aload_n 1 C dX10_partings_0 hl 0 rfl rfl ?_
  refine x_iload_n 2 C dX10_partings_1 hl 1 rfl rfl ?_
  refine x_iload_n 3 C dX10_partings_2 hl 2 rfl rfl ?_
  obtain ⟨y3, hy3, hf⟩ := kx_bind hf
  refine x_callVi0 6 C dX10_partings_3 X hl kl_X10_176 (c_X10_loadTwo E.2.1 D T h v1 v2 m_drawers_full m_drawers_kept m_drawers_partA m_drawers_partB m_drawers_keptA m_drawers_keptB m_drawers_keptFull m_tape_size m_tape_plain m_tape_omegas m_tape_end m_tape_place m_tape_plainTold m_tape_omegasTold m_tape_bytes m_euclid_count m_euclid_last_a m_euclid_last_b m_euclid_lastOfFirst_a m_euclid_lastOfFirst_b m_euclid_lastOfSecond_a m_euclid_lastOfSecond_b m_euclid_next_a m_euclid_next_b m_euclid_nextOfFirst_a m_euclid_nextOfFirst_b m_euclid_nextOfSecond_a m_euclid_nextOfSecond_b m_euclid_q_a m_euclid_q_b m_euclid_quotientA m_euclid_quotientB m_modulus_step m_modulus_width m_modulus_slant m_modulus_square_a m_modulus_square_b m_factors_count m_factors_threes m_factors_unit m_factors_primeA m_factors_primeB m_factors_norms m_factors_euclid_count m_factors_euclid_last_a m_factors_euclid_last_b m_factors_euclid_lastOfFirst_a m_factors_euclid_lastOfFirst_b m_factors_euclid_lastOfSecond_a m_factors_euclid_lastOfSecond_b m_factors_euclid_next_a m_factors_euclid_next_b m_factors_euclid_nextOfFirst_a m_factors_euclid_nextOfFirst_b m_factors_euclid_nextOfSecond_a m_factors_euclid_nextOfSecond_b m_factors_euclid_q_a m_factors_euclid_q_b m_factors_euclid_quotientA m_factors_euclid_quotientB m_factors_left_a m_factors_left_b m_factors_found_a m_factors_found_b m_factors_product_a m_factors_product_b m_primes_count m_primes_primeA m_primes_primeB m_primes_found_a m_primes_found_b m_rings_foundA m_rings_foundB m_rings_all m_rings_mostOfOneRow m_letters_count m_letters_bytes m_one_a m_one_b m_two_a m_two_b m_three_a m_three_b m_four_a m_four_b m_out_a m_out_b m_spare_a m_spare_b m_marks y3 hy3) rfl rfl [] rfl rfl rfl rfl rfl rfl (fun H locs X => ?_)
  refine x_istore_n 7 C dX10_partings_6 [(3, .int y3.1), (0, .ref (h 0)), (1, .int v1), (2, .int v2)] hl rfl rfl rfl (fun ls hl => ?_)
  refine x_iload_n 8 C dX10_partings_7 hl 0 rfl rfl ?_
  refine x_if_eq 13 11 C dX10_partings_8 rfl rfl hf (fun hf => ?_) (fun hf => ?_)
  · refine x_aload_n 14 C dX10_partings_13 hl 1 rfl rfl ?_
    refine x_get 17 C dX10_partings_14 X kf_X10_28 0 rfl rfl rfl ?_
    refine x_aload_n 18 C dX10_partings_17 hl 1 rfl rfl ?_
    refine x_get 21 C dX10_partings_18 X kf_X10_70 0 rfl rfl rfl ?_
    refine x_aload_n 22 C dX10_partings_21 hl 1 rfl rfl ?_
    refine x_get 25 C dX10_partings_22 X kf_X10_74 0 rfl rfl rfl ?_
    obtain ⟨y25, hy25, hf⟩ := kx_bind hf
    refine x_callVv 28 C dX10_partings_25 X hl kl_X10_203 (c_X1_part E.2.1 D T (h 9) (h 10) (h 11) (h 12) (h 13) (h 14) (h 15) (h 16) (h 17) (h 18) (h 45) (h 46) N  m_euclid_count m_euclid_last_a m_euclid_last_b m_euclid_lastOfFirst_a m_euclid_lastOfFirst_b m_euclid_lastOfSecond_a m_euclid_lastOfSecond_b m_euclid_next_a m_euclid_next_b m_euclid_nextOfFirst_a m_euclid_nextOfFirst_b m_euclid_nextOfSecond_a m_euclid_nextOfSecond_b m_euclid_q_a m_euclid_q_b m_euclid_quotientA m_euclid_quotientB y3.2.1 y3.2.2.1 y3.2.2.2.1 y3.2.2.2.2 y25 hy25) rfl rfl [] rfl rfl rfl rfl rfl cb_62 rfl (fun H locs X => ?_)
    refine x_aload_n 29 C dX10_partings_28 hl 1 rfl rfl ?_
    refine x_get 32 C dX10_partings_29 X kf_X10_28 0 rfl rfl rfl ?_
    refine x_get 35 C dX10_partings_32 X kf_X10_358 9 rfl rfl rfl ?_
    obtain rfl := Option.some.inj hf
    exact R _ _ _ _ X dX10_partings_35
  refine x_iload_n 12 C dX10_partings_11 hl 0 rfl rfl ?_
  obtain rfl := Option.some.inj hf
  exact R _ _ _ _ X dX10_partings_12
set_option maxHeartbeats 4000000 in
set_option maxRecDepth 100000 in
theorem c_X11_partings (l : Launch) (D : va_G) (T : KT) (h : Nat → Nat) (N : Nat) (v1 v2 : Int32) (m_taped m_states : Int32) (m_ra m_rb : Int64) (m_threes m_primes m_ones m_unit : Int32) (m_allParts m_allNorms m_allClasses : Int64) (m_odd : Int32) (m_boxWide m_boxHigh m_boxStep : Int64) (m_partingMany : Int32) (m_qa m_qb m_la m_lb m_sa m_sb m_ta m_tb : Int64) (m_listed m_tells m_wanted m_found : Int32) (m_bits : Int64) (m_power2 m_rings m_ringA m_ringB m_seedNow : Int32) (m_tape m_has m_keptHas m_first m_second m_keptFirst m_keptSecond m_pa m_pb m_pNorm m_cubed m_isOpen m_signs m_often m_la0 m_lb0 : Nat → Int32) (x : Int32 × Int64 × Int64 × Int32 × Int64 × Int64 × Int64 × Int64 × Int64 × Int64 × Int64 × Int64) (hf : f_X11_partings N v1 v2 m_ra m_rb m_partingMany m_qa m_qb m_la m_lb m_sa m_sb m_ta m_tb m_has m_first m_second = some x) : kx_MI l yX11_partings cX11_partings 3 (some .int) 4 135 D T [.ref (h 0), .int v1, .int v2] (wM T h m_taped m_states m_ra m_rb m_threes m_primes m_ones m_unit m_allParts m_allNorms m_allClasses m_odd m_boxWide m_boxHigh m_boxStep m_partingMany m_qa m_qb m_la m_lb m_sa m_sb m_ta m_tb m_listed m_tells m_wanted m_found m_bits m_power2 m_rings m_ringA m_ringB m_seedNow m_tape m_has m_keptHas m_first m_second m_keptFirst m_keptSecond m_pa m_pb m_pNorm m_cubed m_isOpen m_signs m_often m_la0 m_lb0) (wM T h m_taped m_states x.2.1 x.2.2.1 m_threes m_primes m_ones m_unit m_allParts m_allNorms m_allClasses m_odd m_boxWide m_boxHigh m_boxStep x.2.2.2.1 x.2.2.2.2.1 x.2.2.2.2.2.1 x.2.2.2.2.2.2.1 x.2.2.2.2.2.2.2.1 x.2.2.2.2.2.2.2.2.1 x.2.2.2.2.2.2.2.2.2.1 x.2.2.2.2.2.2.2.2.2.2.1 x.2.2.2.2.2.2.2.2.2.2.2 m_listed m_tells m_wanted m_found m_bits m_power2 m_rings m_ringA m_ringB m_seedNow m_tape m_has m_keptHas m_first m_second m_keptFirst m_keptSecond m_pa m_pb m_pNorm m_cubed m_isOpen m_signs m_often m_la0 m_lb0) x.1 := by
  refine kx_ofMI RX11 rfl (plainFor_of_name (x := yX11_partings) kpn_X11) rfl ?_
  intro E A H ls _ C X R hl
  have hl : lv_has ls 3 [(0, .ref (h 0)), (1, .int v1), (2, .int v2)] := hl
  rw [f_X11_partings] at hf
  refine x_iload_n 1 C dX11_partings_0 hl 1 rfl rfl ?_
  obtain ⟨y1, hy1, hf⟩ := kx_bind hf
  refine x_callSi 4 C dX11_partings_1 X hl kl_X11_85 (c_X11_isDrawer E.2.1 D T  v1  y1 hy1) [] rfl rfl rfl rfl rfl cb_7 rfl (fun H locs X => ?_)
  refine x_if_eq 14 7 C dX11_partings_4 rfl rfl hf (fun hf => ?_) (fun hf => ?_)
  · refine x_iconst 15 C dX11_partings_14 (-1 : Int32) kv_iconst_m1 rfl ?_
    obtain rfl := Option.some.inj hf
    exact R _ _ _ _ X dX11_partings_15
  refine x_iload_n 8 C dX11_partings_7 hl 2 rfl rfl ?_
  obtain ⟨y8, hy8, hf⟩ := kx_bind hf
  refine x_callSi 11 C dX11_partings_8 X hl kl_X11_85 (c_X11_isDrawer E.2.1 D T  v2  y8 hy8) [] rfl rfl rfl rfl rfl cb_7 rfl (fun H locs X => ?_)
  refine x_if_ne 16 14 C dX11_partings_11 rfl rfl hf (fun hf => ?_) (fun hf => ?_)
  · refine x_aload_n 17 C dX11_partings_16 hl 0 rfl rfl ?_
    refine x_iload_n 18 C dX11_partings_17 hl 1 rfl rfl ?_
    refine x_iload_n 19 C dX11_partings_18 hl 2 rfl rfl ?_
    obtain ⟨y19, hy19, hf⟩ := kx_bind hf
    refine x_callVi0 22 C dX11_partings_19 X hl kl_X11_269 (c_X11_hasBoth E.2.1 D T h v1 v2 m_taped m_states m_ra m_rb m_threes m_primes m_ones m_unit m_allParts m_allNorms m_allClasses m_odd m_boxWide m_boxHigh m_boxStep m_partingMany m_qa m_qb m_la m_lb m_sa m_sb m_ta m_tb m_listed m_tells m_wanted m_found m_bits m_power2 m_rings m_ringA m_ringB m_seedNow m_tape m_has m_keptHas m_first m_second m_keptFirst m_keptSecond m_pa m_pb m_pNorm m_cubed m_isOpen m_signs m_often m_la0 m_lb0 y19 hy19) rfl rfl [] rfl rfl rfl rfl rfl rfl (fun H locs X => ?_)
    refine x_if_ne 28 25 C dX11_partings_22 rfl rfl hf (fun hf => ?_) (fun hf => ?_)
    · refine x_aload_n 29 C dX11_partings_28 hl 0 rfl rfl ?_
      refine x_aload_n 30 C dX11_partings_29 hl 0 rfl rfl ?_
      refine x_get 33 C dX11_partings_30 X kf_X11_20 0 rfl rfl rfl ?_
      refine x_iload_n 34 C dX11_partings_33 hl 1 rfl rfl ?_
      refine x_iald 35 C dX11_partings_34 X 4 rfl hf rfl (fun hf => ?_)
      refine x_i2l 36 C dX11_partings_35 rfl ?_
      refine x_aload_n 37 C dX11_partings_36 hl 0 rfl rfl ?_
      refine x_get 40 C dX11_partings_37 X kf_X11_24 0 rfl rfl rfl ?_
      refine x_iload_n 41 C dX11_partings_40 hl 1 rfl rfl ?_
      refine x_iald 42 C dX11_partings_41 X 5 rfl hf rfl (fun hf => ?_)
      refine x_i2l 43 C dX11_partings_42 rfl ?_
      refine x_aload_n 44 C dX11_partings_43 hl 0 rfl rfl ?_
      refine x_get 47 C dX11_partings_44 X kf_X11_20 0 rfl rfl rfl ?_
      refine x_iload_n 48 C dX11_partings_47 hl 2 rfl rfl ?_
      refine x_iald 49 C dX11_partings_48 X 4 rfl hf rfl (fun hf => ?_)
      refine x_i2l 50 C dX11_partings_49 rfl ?_
      refine x_aload_n 51 C dX11_partings_50 hl 0 rfl rfl ?_
      refine x_get 54 C dX11_partings_51 X kf_X11_24 0 rfl rfl rfl ?_
      refine x_iload_n 55 C dX11_partings_54 hl 2 rfl rfl ?_
      refine x_iald 56 C dX11_partings_55 X 5 rfl hf rfl (fun hf => ?_)
      refine x_i2l 57 C dX11_partings_56 rfl ?_
      refine x_iconst 58 C dX11_partings_57 (-1 : Int32) kv_iconst_m1 rfl ?_
      obtain ⟨y58, hy58, hf⟩ := kx_bind hf
      refine x_callVv0 61 C dX11_partings_58 X hl kl_X11_311 (c_X11_parted E.2.1 D T h N ((m_first (v1).toNatClampNeg)).toInt64 ((m_second (v1).toNatClampNeg)).toInt64 ((m_first (v2).toNatClampNeg)).toInt64 ((m_second (v2).toNatClampNeg)).toInt64 (-1 : Int32) m_taped m_states m_ra m_rb m_threes m_primes m_ones m_unit m_allParts m_allNorms m_allClasses m_odd m_boxWide m_boxHigh m_boxStep m_partingMany m_qa m_qb m_la m_lb m_sa m_sb m_ta m_tb m_listed m_tells m_wanted m_found m_bits m_power2 m_rings m_ringA m_ringB m_seedNow m_tape m_has m_keptHas m_first m_second m_keptFirst m_keptSecond m_pa m_pb m_pNorm m_cubed m_isOpen m_signs m_often m_la0 m_lb0 y58 hy58) rfl rfl [] rfl rfl rfl rfl rfl rfl (fun H locs X => ?_)
      refine x_aload_n 62 C dX11_partings_61 hl 0 rfl rfl ?_
      refine x_get 65 C dX11_partings_62 X kf_X11_296 0 rfl rfl rfl ?_
      obtain rfl := Option.some.inj hf
      exact R _ _ _ _ X dX11_partings_65
    refine x_bipush 27 C dX11_partings_25 (-2 : Int32) kv_bipush_m2 rfl ?_
    obtain rfl := Option.some.inj hf
    exact R _ _ _ _ X dX11_partings_27
  refine x_iconst 15 C dX11_partings_14 (-1 : Int32) kv_iconst_m1 rfl ?_
  obtain rfl := Option.some.inj hf
  exact R _ _ _ _ X dX11_partings_15
set_option maxHeartbeats 4000000 in
set_option maxRecDepth 100000 in
theorem c_J9_max_f86c9 (l : Launch) (D : va_G) (T : KT)  (v0 v2 : Int64)  (x : Int64) (hf : f_J9_max_f86c9 v0 v2 = some x) : kx_ML l yJ9_max_f86c9 cJ9_max_f86c9 4 (some .long) 0 0 D T [.long v0, .long v2] (w4_ T  ) (w4_ T  ) x := by
  refine kx_ofML RJ9 rfl (by decide +kernel) rfl ?_
  intro E A H ls _ C X R hl
  have hl : lv_has ls 4 [(0, .long v0), (2, .long v2)] := hl
  rw [f_J9_max_f86c9] at hf
  refine x_lload_n 1 C dJ9_max_f86c9_0 hl 0 rfl rfl ?_
  refine x_lload_n 2 C dJ9_max_f86c9_1 hl 1 rfl rfl ?_
  refine x_lcmp_lt 10 3 6 C dJ9_max_f86c9_2 dJ9_max_f86c9_3 rfl rfl rfl hf (fun hf => ?_) (fun hf => ?_)
  · refine x_lload_n 11 C dJ9_max_f86c9_10 hl 1 rfl rfl ?_
    obtain rfl := Option.some.inj hf
    exact R _ _ _ _ X dJ9_max_f86c9_11
  refine x_lload_n 7 C dJ9_max_f86c9_6 hl 0 rfl rfl ?_
  refine x_goto 11 C dJ9_max_f86c9_7 rfl ?_
  obtain rfl := Option.some.inj hf
  exact R _ _ _ _ X dJ9_max_f86c9_11
set_option maxHeartbeats 4000000 in
set_option maxRecDepth 100000 in
theorem c_X10_steps (l : Launch) (D : va_G) (T : KT) (h : Nat → Nat) (v1 v2 : Int32) (m_drawers_full m_drawers_kept : Int32) (m_drawers_partA m_drawers_partB m_drawers_keptA m_drawers_keptB m_drawers_keptFull : Nat → Int32) (m_tape_size m_tape_plain m_tape_omegas m_tape_end m_tape_place m_tape_plainTold m_tape_omegasTold : Int32) (m_tape_bytes : Nat → Int32) (m_euclid_count : Int32) (m_euclid_last_a m_euclid_last_b m_euclid_lastOfFirst_a m_euclid_lastOfFirst_b m_euclid_lastOfSecond_a m_euclid_lastOfSecond_b m_euclid_next_a m_euclid_next_b m_euclid_nextOfFirst_a m_euclid_nextOfFirst_b m_euclid_nextOfSecond_a m_euclid_nextOfSecond_b m_euclid_q_a m_euclid_q_b : Int64) (m_euclid_quotientA m_euclid_quotientB : Nat → Int64) (m_modulus_step m_modulus_width m_modulus_slant m_modulus_square_a m_modulus_square_b : Int64) (m_factors_count m_factors_threes m_factors_unit : Int32) (m_factors_primeA m_factors_primeB m_factors_norms : Nat → Int64) (m_factors_euclid_count : Int32) (m_factors_euclid_last_a m_factors_euclid_last_b m_factors_euclid_lastOfFirst_a m_factors_euclid_lastOfFirst_b m_factors_euclid_lastOfSecond_a m_factors_euclid_lastOfSecond_b m_factors_euclid_next_a m_factors_euclid_next_b m_factors_euclid_nextOfFirst_a m_factors_euclid_nextOfFirst_b m_factors_euclid_nextOfSecond_a m_factors_euclid_nextOfSecond_b m_factors_euclid_q_a m_factors_euclid_q_b : Int64) (m_factors_euclid_quotientA m_factors_euclid_quotientB : Nat → Int64) (m_factors_left_a m_factors_left_b m_factors_found_a m_factors_found_b m_factors_product_a m_factors_product_b : Int64) (m_primes_count : Int32) (m_primes_primeA m_primes_primeB : Nat → Int32) (m_primes_found_a m_primes_found_b : Int64) (m_rings_foundA m_rings_foundB m_rings_all m_rings_mostOfOneRow m_letters_count : Int32) (m_letters_bytes : Nat → Int32) (m_one_a m_one_b m_two_a m_two_b m_three_a m_three_b m_four_a m_four_b m_out_a m_out_b m_spare_a m_spare_b : Int64) (m_marks : Nat → Int32) (x : Int32 × Int64 × Int64 × Int64 × Int64) (hf : f_X10_steps v1 v2 m_drawers_full m_drawers_partA m_drawers_partB m_one_a m_one_b m_two_a m_two_b = some x) : kx_MI l yX10_steps cX10_steps 6 (some .int) 3 68 D T [.ref (h 0), .int v1, .int v2] (wC T h m_drawers_full m_drawers_kept m_drawers_partA m_drawers_partB m_drawers_keptA m_drawers_keptB m_drawers_keptFull m_tape_size m_tape_plain m_tape_omegas m_tape_end m_tape_place m_tape_plainTold m_tape_omegasTold m_tape_bytes m_euclid_count m_euclid_last_a m_euclid_last_b m_euclid_lastOfFirst_a m_euclid_lastOfFirst_b m_euclid_lastOfSecond_a m_euclid_lastOfSecond_b m_euclid_next_a m_euclid_next_b m_euclid_nextOfFirst_a m_euclid_nextOfFirst_b m_euclid_nextOfSecond_a m_euclid_nextOfSecond_b m_euclid_q_a m_euclid_q_b m_euclid_quotientA m_euclid_quotientB m_modulus_step m_modulus_width m_modulus_slant m_modulus_square_a m_modulus_square_b m_factors_count m_factors_threes m_factors_unit m_factors_primeA m_factors_primeB m_factors_norms m_factors_euclid_count m_factors_euclid_last_a m_factors_euclid_last_b m_factors_euclid_lastOfFirst_a m_factors_euclid_lastOfFirst_b m_factors_euclid_lastOfSecond_a m_factors_euclid_lastOfSecond_b m_factors_euclid_next_a m_factors_euclid_next_b m_factors_euclid_nextOfFirst_a m_factors_euclid_nextOfFirst_b m_factors_euclid_nextOfSecond_a m_factors_euclid_nextOfSecond_b m_factors_euclid_q_a m_factors_euclid_q_b m_factors_euclid_quotientA m_factors_euclid_quotientB m_factors_left_a m_factors_left_b m_factors_found_a m_factors_found_b m_factors_product_a m_factors_product_b m_primes_count m_primes_primeA m_primes_primeB m_primes_found_a m_primes_found_b m_rings_foundA m_rings_foundB m_rings_all m_rings_mostOfOneRow m_letters_count m_letters_bytes m_one_a m_one_b m_two_a m_two_b m_three_a m_three_b m_four_a m_four_b m_out_a m_out_b m_spare_a m_spare_b m_marks) (wC T h m_drawers_full m_drawers_kept m_drawers_partA m_drawers_partB m_drawers_keptA m_drawers_keptB m_drawers_keptFull m_tape_size m_tape_plain m_tape_omegas m_tape_end m_tape_place m_tape_plainTold m_tape_omegasTold m_tape_bytes m_euclid_count m_euclid_last_a m_euclid_last_b m_euclid_lastOfFirst_a m_euclid_lastOfFirst_b m_euclid_lastOfSecond_a m_euclid_lastOfSecond_b m_euclid_next_a m_euclid_next_b m_euclid_nextOfFirst_a m_euclid_nextOfFirst_b m_euclid_nextOfSecond_a m_euclid_nextOfSecond_b m_euclid_q_a m_euclid_q_b m_euclid_quotientA m_euclid_quotientB m_modulus_step m_modulus_width m_modulus_slant m_modulus_square_a m_modulus_square_b m_factors_count m_factors_threes m_factors_unit m_factors_primeA m_factors_primeB m_factors_norms m_factors_euclid_count m_factors_euclid_last_a m_factors_euclid_last_b m_factors_euclid_lastOfFirst_a m_factors_euclid_lastOfFirst_b m_factors_euclid_lastOfSecond_a m_factors_euclid_lastOfSecond_b m_factors_euclid_next_a m_factors_euclid_next_b m_factors_euclid_nextOfFirst_a m_factors_euclid_nextOfFirst_b m_factors_euclid_nextOfSecond_a m_factors_euclid_nextOfSecond_b m_factors_euclid_q_a m_factors_euclid_q_b m_factors_euclid_quotientA m_factors_euclid_quotientB m_factors_left_a m_factors_left_b m_factors_found_a m_factors_found_b m_factors_product_a m_factors_product_b m_primes_count m_primes_primeA m_primes_primeB m_primes_found_a m_primes_found_b m_rings_foundA m_rings_foundB m_rings_all m_rings_mostOfOneRow m_letters_count m_letters_bytes x.2.1 x.2.2.1 x.2.2.2.1 x.2.2.2.2 m_three_a m_three_b m_four_a m_four_b m_out_a m_out_b m_spare_a m_spare_b m_marks) x.1 := by
  refine kx_ofMI RX10 rfl (plainFor_of_name (x := yX10_steps) kpn_X10) rfl ?_
  intro E A H ls _ C X R hl
  have hl : lv_has ls 6 [(0, .ref (h 0)), (1, .int v1), (2, .int v2)] := hl
  rw [f_X10_steps] at hf
  refine x_aload_n 1 C dX10_steps_0 hl 0 rfl rfl ?_
  refine x_iload_n 2 C dX10_steps_1 hl 1 rfl rfl ?_
  refine x_iload_n 3 C dX10_steps_2 hl 2 rfl rfl ?_
  obtain ⟨y3, hy3, hf⟩ := kx_bind hf
  refine x_callVi0 6 C dX10_steps_3 X hl kl_X10_176 (c_X10_loadTwo E.2.1 D T h v1 v2 m_drawers_full m_drawers_kept m_drawers_partA m_drawers_partB m_drawers_keptA m_drawers_keptB m_drawers_keptFull m_tape_size m_tape_plain m_tape_omegas m_tape_end m_tape_place m_tape_plainTold m_tape_omegasTold m_tape_bytes m_euclid_count m_euclid_last_a m_euclid_last_b m_euclid_lastOfFirst_a m_euclid_lastOfFirst_b m_euclid_lastOfSecond_a m_euclid_lastOfSecond_b m_euclid_next_a m_euclid_next_b m_euclid_nextOfFirst_a m_euclid_nextOfFirst_b m_euclid_nextOfSecond_a m_euclid_nextOfSecond_b m_euclid_q_a m_euclid_q_b m_euclid_quotientA m_euclid_quotientB m_modulus_step m_modulus_width m_modulus_slant m_modulus_square_a m_modulus_square_b m_factors_count m_factors_threes m_factors_unit m_factors_primeA m_factors_primeB m_factors_norms m_factors_euclid_count m_factors_euclid_last_a m_factors_euclid_last_b m_factors_euclid_lastOfFirst_a m_factors_euclid_lastOfFirst_b m_factors_euclid_lastOfSecond_a m_factors_euclid_lastOfSecond_b m_factors_euclid_next_a m_factors_euclid_next_b m_factors_euclid_nextOfFirst_a m_factors_euclid_nextOfFirst_b m_factors_euclid_nextOfSecond_a m_factors_euclid_nextOfSecond_b m_factors_euclid_q_a m_factors_euclid_q_b m_factors_euclid_quotientA m_factors_euclid_quotientB m_factors_left_a m_factors_left_b m_factors_found_a m_factors_found_b m_factors_product_a m_factors_product_b m_primes_count m_primes_primeA m_primes_primeB m_primes_found_a m_primes_found_b m_rings_foundA m_rings_foundB m_rings_all m_rings_mostOfOneRow m_letters_count m_letters_bytes m_one_a m_one_b m_two_a m_two_b m_three_a m_three_b m_four_a m_four_b m_out_a m_out_b m_spare_a m_spare_b m_marks y3 hy3) rfl rfl [] rfl rfl rfl rfl rfl rfl (fun H locs X => ?_)
  refine x_istore_n 7 C dX10_steps_6 [(3, .int y3.1), (0, .ref (h 0)), (1, .int v1), (2, .int v2)] hl rfl rfl rfl (fun ls hl => ?_)
  refine x_iload_n 8 C dX10_steps_7 hl 0 rfl rfl ?_
  refine x_if_eq 13 11 C dX10_steps_8 rfl rfl hf (fun hf => ?_) (fun hf => ?_)
  · refine x_aload_n 14 C dX10_steps_13 hl 1 rfl rfl ?_
    refine x_get 17 C dX10_steps_14 X kf_X10_74 0 rfl rfl rfl ?_
    refine x_aload_n 18 C dX10_steps_17 hl 1 rfl rfl ?_
    refine x_get 21 C dX10_steps_18 X kf_X10_70 0 rfl rfl rfl ?_
    obtain ⟨y21, hy21, hf⟩ := kx_bind hf
    refine x_callVv 24 C dX10_steps_21 X hl kl_X10_193 (c_X5_subtract E.2.1 D T (h 46) (h 45)  y3.2.2.2.1 y3.2.2.2.2 y3.2.1 y3.2.2.1 y21 hy21) rfl rfl [] rfl rfl rfl rfl rfl cb_68 rfl (fun H locs X => ?_)
    refine x_aload_n 25 C dX10_steps_24 hl 1 rfl rfl ?_
    refine x_get 28 C dX10_steps_25 X kf_X10_74 0 rfl rfl rfl ?_
    refine x_get 31 C dX10_steps_28 X kf_X10_145 46 rfl rfl rfl ?_
    obtain ⟨y31, hy31, hf⟩ := kx_bind hf
    refine x_callSl 34 C dX10_steps_31 X hl kl_X10_368 (c_J9_abs_067f4 E.2.1 D T  y21.1  y31 hy31) [] rfl rfl rfl rfl rfl cb_2 rfl (fun H locs X => ?_)
    refine x_aload_n 35 C dX10_steps_34 hl 1 rfl rfl ?_
    refine x_get 38 C dX10_steps_35 X kf_X10_74 0 rfl rfl rfl ?_
    refine x_get 41 C dX10_steps_38 X kf_X10_149 46 rfl rfl rfl ?_
    obtain ⟨y41, hy41, hf⟩ := kx_bind hf
    refine x_callSl 44 C dX10_steps_41 X hl kl_X10_368 (c_J9_abs_067f4 E.2.1 D T  y21.2  y41 hy41) [.long y31] rfl rfl rfl rfl rfl cb_2 rfl (fun H locs X => ?_)
    obtain ⟨y44, hy44, hf⟩ := kx_bind hf
    refine x_callSl 47 C dX10_steps_44 X hl kl_X10_374 (c_J9_max_f86c9 E.2.1 D T  y31 y41  y44 hy44) [] rfl rfl rfl rfl rfl cb_2 rfl (fun H locs X => ?_)
    refine x_lstore 49 C dX10_steps_47 [(4, .long y44), (3, .int y3.1), (0, .ref (h 0)), (1, .int v1), (2, .int v2)] hl rfl rfl rfl (fun ls hl => ?_)
    refine x_lload 51 C dX10_steps_49 hl 0 rfl rfl ?_
    refine x_aload_n 52 C dX10_steps_51 hl 2 rfl rfl ?_
    refine x_get 55 C dX10_steps_52 X kf_X10_74 0 rfl rfl rfl ?_
    refine x_get 58 C dX10_steps_55 X kf_X10_145 46 rfl rfl rfl ?_
    refine x_aload_n 59 C dX10_steps_58 hl 2 rfl rfl ?_
    refine x_get 62 C dX10_steps_59 X kf_X10_74 0 rfl rfl rfl ?_
    refine x_get 65 C dX10_steps_62 X kf_X10_149 46 rfl rfl rfl ?_
    refine x_lsub 66 C dX10_steps_65 rfl ?_
    obtain ⟨y66, hy66, hf⟩ := kx_bind hf
    refine x_callSl 69 C dX10_steps_66 X hl kl_X10_368 (c_J9_abs_067f4 E.2.1 D T  (y21.1 - y21.2)  y66 hy66) [.long y44] rfl rfl rfl rfl rfl cb_2 rfl (fun H locs X => ?_)
    obtain ⟨y69, hy69, hf⟩ := kx_bind hf
    refine x_callSl 72 C dX10_steps_69 X hl kl_X10_374 (c_J9_max_f86c9 E.2.1 D T  y44 y66  y69 hy69) [] rfl rfl rfl rfl rfl cb_2 rfl (fun H locs X => ?_)
    refine x_l2i 73 C dX10_steps_72 rfl ?_
    obtain rfl := Option.some.inj hf
    exact R _ _ _ _ X dX10_steps_73
  refine x_iload_n 12 C dX10_steps_11 hl 0 rfl rfl ?_
  obtain rfl := Option.some.inj hf
  exact R _ _ _ _ X dX10_steps_12
set_option maxHeartbeats 4000000 in
set_option maxRecDepth 100000 in
theorem w_X11_steps_95 {E : KE} {A : Nat → Prop} {D : va_G} {T : KT} (h : Nat → Nat) (C : kx_C E cX11_steps 11 (some .int) RX11 2 45 D T) (x : Int32) (m_taped m_states : Int32) (m_ra m_rb : Int64) (m_threes m_primes m_ones m_unit : Int32) (m_allParts m_allNorms m_allClasses : Int64) (m_odd : Int32) (m_boxWide m_boxHigh m_boxStep : Int64) (m_partingMany : Int32) (m_qa m_qb m_la m_lb m_sa m_sb m_ta m_tb : Int64) (m_listed m_tells m_wanted m_found : Int32) (m_bits : Int64) (m_power2 m_rings m_ringA m_ringB m_seedNow : Int32) (m_tape m_has m_keptHas m_first m_second m_keptFirst m_keptSecond m_pa m_pb m_pNorm m_cubed m_isOpen m_signs m_often m_la0 m_lb0 : Nat → Int32) (R : kx_RI E cX11_steps D A (wM T h m_taped m_states m_ra m_rb m_threes m_primes m_ones m_unit m_allParts m_allNorms m_allClasses m_odd m_boxWide m_boxHigh m_boxStep m_partingMany m_qa m_qb m_la m_lb m_sa m_sb m_ta m_tb m_listed m_tells m_wanted m_found m_bits m_power2 m_rings m_ringA m_ringB m_seedNow m_tape m_has m_keptHas m_first m_second m_keptFirst m_keptSecond m_pa m_pb m_pNorm m_cubed m_isOpen m_signs m_often m_la0 m_lb0) x) : ∀  (v7 v9 : Int64) (s0 s1 : Int32) (H : Heap) (locs : List Loc) (ls : Array Slot), kx_H E D A H locs (wM T h m_taped m_states m_ra m_rb m_threes m_primes m_ones m_unit m_allParts m_allNorms m_allClasses m_odd m_boxWide m_boxHigh m_boxStep m_partingMany m_qa m_qb m_la m_lb m_sa m_sb m_ta m_tb m_listed m_tells m_wanted m_found m_bits m_power2 m_rings m_ringA m_ringB m_seedNow m_tape m_has m_keptHas m_first m_second m_keptFirst m_keptSecond m_pa m_pb m_pNorm m_cubed m_isOpen m_signs m_often m_la0 m_lb0) → lv_has ls 11 [(7, .long v7), (9, .long v9)] → f_X11_steps_95 v7 v9 s0 s1 = some x → kx_W E H locs 95 ls [.int s1, .int s0] := by
  intro v7 v9 s0 s1 H locs ls X hl hf
  rw [f_X11_steps_95] at hf
  refine x_icmp_eq 106 98 C dX11_steps_95 rfl rfl hf (fun hf => ?_) (fun hf => ?_)
  · refine x_lload 108 C dX11_steps_106 hl 0 rfl rfl ?_
    refine x_lload 110 C dX11_steps_108 hl 1 rfl rfl ?_
    refine x_lcmp_le 119 111 114 C dX11_steps_110 dX11_steps_111 rfl rfl rfl hf (fun hf => ?_) (fun hf => ?_)
    · refine x_lload 121 C dX11_steps_119 hl 1 rfl rfl ?_
      refine x_l2i 122 C dX11_steps_121 rfl ?_
      obtain rfl := Option.some.inj hf
      exact R _ _ _ _ X dX11_steps_122
    refine x_lload 116 C dX11_steps_114 hl 0 rfl rfl ?_
    refine x_goto 121 C dX11_steps_116 rfl ?_
    refine x_l2i 122 C dX11_steps_121 rfl ?_
    obtain rfl := Option.some.inj hf
    exact R _ _ _ _ X dX11_steps_122
  refine x_lload 100 C dX11_steps_98 hl 0 rfl rfl ?_
  refine x_lload 102 C dX11_steps_100 hl 1 rfl rfl ?_
  refine x_ladd 103 C dX11_steps_102 rfl ?_
  refine x_goto 121 C dX11_steps_103 rfl ?_
  refine x_l2i 122 C dX11_steps_121 rfl ?_
  obtain rfl := Option.some.inj hf
  exact R _ _ _ _ X dX11_steps_122
set_option maxHeartbeats 4000000 in
set_option maxRecDepth 100000 in
theorem c_X11_steps (l : Launch) (D : va_G) (T : KT) (h : Nat → Nat) (v1 v2 : Int32) (m_taped m_states : Int32) (m_ra m_rb : Int64) (m_threes m_primes m_ones m_unit : Int32) (m_allParts m_allNorms m_allClasses : Int64) (m_odd : Int32) (m_boxWide m_boxHigh m_boxStep : Int64) (m_partingMany : Int32) (m_qa m_qb m_la m_lb m_sa m_sb m_ta m_tb : Int64) (m_listed m_tells m_wanted m_found : Int32) (m_bits : Int64) (m_power2 m_rings m_ringA m_ringB m_seedNow : Int32) (m_tape m_has m_keptHas m_first m_second m_keptFirst m_keptSecond m_pa m_pb m_pNorm m_cubed m_isOpen m_signs m_often m_la0 m_lb0 : Nat → Int32) (x : Int32) (hf : f_X11_steps v1 v2 m_has m_first m_second = some x) : kx_MI l yX11_steps cX11_steps 11 (some .int) 2 45 D T [.ref (h 0), .int v1, .int v2] (wM T h m_taped m_states m_ra m_rb m_threes m_primes m_ones m_unit m_allParts m_allNorms m_allClasses m_odd m_boxWide m_boxHigh m_boxStep m_partingMany m_qa m_qb m_la m_lb m_sa m_sb m_ta m_tb m_listed m_tells m_wanted m_found m_bits m_power2 m_rings m_ringA m_ringB m_seedNow m_tape m_has m_keptHas m_first m_second m_keptFirst m_keptSecond m_pa m_pb m_pNorm m_cubed m_isOpen m_signs m_often m_la0 m_lb0) (wM T h m_taped m_states m_ra m_rb m_threes m_primes m_ones m_unit m_allParts m_allNorms m_allClasses m_odd m_boxWide m_boxHigh m_boxStep m_partingMany m_qa m_qb m_la m_lb m_sa m_sb m_ta m_tb m_listed m_tells m_wanted m_found m_bits m_power2 m_rings m_ringA m_ringB m_seedNow m_tape m_has m_keptHas m_first m_second m_keptFirst m_keptSecond m_pa m_pb m_pNorm m_cubed m_isOpen m_signs m_often m_la0 m_lb0) x := by
  refine kx_ofMI RX11 rfl (plainFor_of_name (x := yX11_steps) kpn_X11) rfl ?_
  intro E A H ls _ C X R hl
  have hl : lv_has ls 11 [(0, .ref (h 0)), (1, .int v1), (2, .int v2)] := hl
  rw [f_X11_steps] at hf
  refine x_iload_n 1 C dX11_steps_0 hl 1 rfl rfl ?_
  obtain ⟨y1, hy1, hf⟩ := kx_bind hf
  refine x_callSi 4 C dX11_steps_1 X hl kl_X11_85 (c_X11_isDrawer E.2.1 D T  v1  y1 hy1) [] rfl rfl rfl rfl rfl cb_7 rfl (fun H locs X => ?_)
  refine x_if_eq 14 7 C dX11_steps_4 rfl rfl hf (fun hf => ?_) (fun hf => ?_)
  · refine x_iconst 15 C dX11_steps_14 (-1 : Int32) kv_iconst_m1 rfl ?_
    obtain rfl := Option.some.inj hf
    exact R _ _ _ _ X dX11_steps_15
  refine x_iload_n 8 C dX11_steps_7 hl 2 rfl rfl ?_
  obtain ⟨y8, hy8, hf⟩ := kx_bind hf
  refine x_callSi 11 C dX11_steps_8 X hl kl_X11_85 (c_X11_isDrawer E.2.1 D T  v2  y8 hy8) [] rfl rfl rfl rfl rfl cb_7 rfl (fun H locs X => ?_)
  refine x_if_ne 16 14 C dX11_steps_11 rfl rfl hf (fun hf => ?_) (fun hf => ?_)
  · refine x_aload_n 17 C dX11_steps_16 hl 0 rfl rfl ?_
    refine x_iload_n 18 C dX11_steps_17 hl 1 rfl rfl ?_
    refine x_iload_n 19 C dX11_steps_18 hl 2 rfl rfl ?_
    obtain ⟨y19, hy19, hf⟩ := kx_bind hf
    refine x_callVi0 22 C dX11_steps_19 X hl kl_X11_269 (c_X11_hasBoth E.2.1 D T h v1 v2 m_taped m_states m_ra m_rb m_threes m_primes m_ones m_unit m_allParts m_allNorms m_allClasses m_odd m_boxWide m_boxHigh m_boxStep m_partingMany m_qa m_qb m_la m_lb m_sa m_sb m_ta m_tb m_listed m_tells m_wanted m_found m_bits m_power2 m_rings m_ringA m_ringB m_seedNow m_tape m_has m_keptHas m_first m_second m_keptFirst m_keptSecond m_pa m_pb m_pNorm m_cubed m_isOpen m_signs m_often m_la0 m_lb0 y19 hy19) rfl rfl [] rfl rfl rfl rfl rfl rfl (fun H locs X => ?_)
    refine x_if_ne 28 25 C dX11_steps_22 rfl rfl hf (fun hf => ?_) (fun hf => ?_)
    · refine x_aload_n 29 C dX11_steps_28 hl 0 rfl rfl ?_
      refine x_get 32 C dX11_steps_29 X kf_X11_20 0 rfl rfl rfl ?_
      refine x_iload_n 33 C dX11_steps_32 hl 2 rfl rfl ?_
      refine x_iald 34 C dX11_steps_33 X 4 rfl hf rfl (fun hf => ?_)
      refine x_aload_n 35 C dX11_steps_34 hl 0 rfl rfl ?_
      refine x_get 38 C dX11_steps_35 X kf_X11_20 0 rfl rfl rfl ?_
      refine x_iload_n 39 C dX11_steps_38 hl 1 rfl rfl ?_
      refine x_iald 40 C dX11_steps_39 X 4 rfl hf rfl (fun hf => ?_)
      refine x_isub 41 C dX11_steps_40 rfl ?_
      refine x_i2l 42 C dX11_steps_41 rfl ?_
      refine x_lstore_n 43 C dX11_steps_42 [(3, .long (((m_first (v2).toNatClampNeg) - (m_first (v1).toNatClampNeg))).toInt64), (0, .ref (h 0)), (1, .int v1), (2, .int v2)] hl rfl rfl rfl (fun ls hl => ?_)
      refine x_aload_n 44 C dX11_steps_43 hl 1 rfl rfl ?_
      refine x_get 47 C dX11_steps_44 X kf_X11_24 0 rfl rfl rfl ?_
      refine x_iload_n 48 C dX11_steps_47 hl 3 rfl rfl ?_
      refine x_iald 49 C dX11_steps_48 X 5 rfl hf rfl (fun hf => ?_)
      refine x_aload_n 50 C dX11_steps_49 hl 1 rfl rfl ?_
      refine x_get 53 C dX11_steps_50 X kf_X11_24 0 rfl rfl rfl ?_
      refine x_iload_n 54 C dX11_steps_53 hl 2 rfl rfl ?_
      refine x_iald 55 C dX11_steps_54 X 5 rfl hf rfl (fun hf => ?_)
      refine x_isub 56 C dX11_steps_55 rfl ?_
      refine x_i2l 57 C dX11_steps_56 rfl ?_
      refine x_lstore 59 C dX11_steps_57 [(5, .long (((m_second (v2).toNatClampNeg) - (m_second (v1).toNatClampNeg))).toInt64), (3, .long (((m_first (v2).toNatClampNeg) - (m_first (v1).toNatClampNeg))).toInt64), (0, .ref (h 0)), (1, .int v1), (2, .int v2)] hl rfl rfl rfl (fun ls hl => ?_)
      refine x_lload_n 60 C dX11_steps_59 hl 1 rfl rfl ?_
      obtain ⟨y60, hy60, hf⟩ := kx_bind hf
      refine x_callSl 63 C dX11_steps_60 X hl kl_X11_246 (c_X11_without E.2.1 D T  (((m_first (v2).toNatClampNeg) - (m_first (v1).toNatClampNeg))).toInt64  y60 hy60) [] rfl rfl rfl rfl rfl cb_7 rfl (fun H locs X => ?_)
      refine x_lstore 65 C dX11_steps_63 [(7, .long y60), (5, .long (((m_second (v2).toNatClampNeg) - (m_second (v1).toNatClampNeg))).toInt64), (3, .long (((m_first (v2).toNatClampNeg) - (m_first (v1).toNatClampNeg))).toInt64), (0, .ref (h 0)), (1, .int v1), (2, .int v2)] hl rfl rfl rfl (fun ls hl => ?_)
      refine x_lload 67 C dX11_steps_65 hl 1 rfl rfl ?_
      obtain ⟨y67, hy67, hf⟩ := kx_bind hf
      refine x_callSl 70 C dX11_steps_67 X hl kl_X11_246 (c_X11_without E.2.1 D T  (((m_second (v2).toNatClampNeg) - (m_second (v1).toNatClampNeg))).toInt64  y67 hy67) [] rfl rfl rfl rfl rfl cb_7 rfl (fun H locs X => ?_)
      refine x_lstore 72 C dX11_steps_70 [(9, .long y67), (7, .long y60), (5, .long (((m_second (v2).toNatClampNeg) - (m_second (v1).toNatClampNeg))).toInt64), (3, .long (((m_first (v2).toNatClampNeg) - (m_first (v1).toNatClampNeg))).toInt64), (0, .ref (h 0)), (1, .int v1), (2, .int v2)] hl rfl rfl rfl (fun ls hl => ?_)
      refine x_lload_n 73 C dX11_steps_72 hl 3 rfl rfl ?_
      refine x_lconst 74 C dX11_steps_73 (0 : Int64) kv_lconst_0 rfl ?_
      refine x_lcmp_ge 82 75 78 C dX11_steps_74 dX11_steps_75 rfl rfl rfl hf (fun hf => ?_) (fun hf => ?_)
      · refine x_iconst 83 C dX11_steps_82 (0 : Int32) kv_iconst_0 rfl ?_
        refine x_lload 85 C dX11_steps_83 hl 2 rfl rfl ?_
        refine x_lconst 86 C dX11_steps_85 (0 : Int64) kv_lconst_0 rfl ?_
        refine x_lcmp_ge 94 87 90 C dX11_steps_86 dX11_steps_87 rfl rfl rfl hf (fun hf => ?_) (fun hf => ?_)
        · refine x_iconst 95 C dX11_steps_94 (0 : Int32) kv_iconst_0 rfl ?_
          exact w_X11_steps_95 h C x m_taped m_states m_ra m_rb m_threes m_primes m_ones m_unit m_allParts m_allNorms m_allClasses m_odd m_boxWide m_boxHigh m_boxStep m_partingMany m_qa m_qb m_la m_lb m_sa m_sb m_ta m_tb m_listed m_tells m_wanted m_found m_bits m_power2 m_rings m_ringA m_ringB m_seedNow m_tape m_has m_keptHas m_first m_second m_keptFirst m_keptSecond m_pa m_pb m_pNorm m_cubed m_isOpen m_signs m_often m_la0 m_lb0 R  y60 y67 (0 : Int32) (0 : Int32) _ _ _ X (lv_sub hl [1, 0] rfl) hf
        refine x_iconst 91 C dX11_steps_90 (1 : Int32) kv_iconst_1 rfl ?_
        refine x_goto 95 C dX11_steps_91 rfl ?_
        exact w_X11_steps_95 h C x m_taped m_states m_ra m_rb m_threes m_primes m_ones m_unit m_allParts m_allNorms m_allClasses m_odd m_boxWide m_boxHigh m_boxStep m_partingMany m_qa m_qb m_la m_lb m_sa m_sb m_ta m_tb m_listed m_tells m_wanted m_found m_bits m_power2 m_rings m_ringA m_ringB m_seedNow m_tape m_has m_keptHas m_first m_second m_keptFirst m_keptSecond m_pa m_pb m_pNorm m_cubed m_isOpen m_signs m_often m_la0 m_lb0 R  y60 y67 (0 : Int32) (1 : Int32) _ _ _ X (lv_sub hl [1, 0] rfl) hf
      refine x_iconst 79 C dX11_steps_78 (1 : Int32) kv_iconst_1 rfl ?_
      refine x_goto 83 C dX11_steps_79 rfl ?_
      refine x_lload 85 C dX11_steps_83 hl 2 rfl rfl ?_
      refine x_lconst 86 C dX11_steps_85 (0 : Int64) kv_lconst_0 rfl ?_
      refine x_lcmp_ge 94 87 90 C dX11_steps_86 dX11_steps_87 rfl rfl rfl hf (fun hf => ?_) (fun hf => ?_)
      · refine x_iconst 95 C dX11_steps_94 (0 : Int32) kv_iconst_0 rfl ?_
        exact w_X11_steps_95 h C x m_taped m_states m_ra m_rb m_threes m_primes m_ones m_unit m_allParts m_allNorms m_allClasses m_odd m_boxWide m_boxHigh m_boxStep m_partingMany m_qa m_qb m_la m_lb m_sa m_sb m_ta m_tb m_listed m_tells m_wanted m_found m_bits m_power2 m_rings m_ringA m_ringB m_seedNow m_tape m_has m_keptHas m_first m_second m_keptFirst m_keptSecond m_pa m_pb m_pNorm m_cubed m_isOpen m_signs m_often m_la0 m_lb0 R  y60 y67 (1 : Int32) (0 : Int32) _ _ _ X (lv_sub hl [1, 0] rfl) hf
      refine x_iconst 91 C dX11_steps_90 (1 : Int32) kv_iconst_1 rfl ?_
      refine x_goto 95 C dX11_steps_91 rfl ?_
      exact w_X11_steps_95 h C x m_taped m_states m_ra m_rb m_threes m_primes m_ones m_unit m_allParts m_allNorms m_allClasses m_odd m_boxWide m_boxHigh m_boxStep m_partingMany m_qa m_qb m_la m_lb m_sa m_sb m_ta m_tb m_listed m_tells m_wanted m_found m_bits m_power2 m_rings m_ringA m_ringB m_seedNow m_tape m_has m_keptHas m_first m_second m_keptFirst m_keptSecond m_pa m_pb m_pNorm m_cubed m_isOpen m_signs m_often m_la0 m_lb0 R  y60 y67 (1 : Int32) (1 : Int32) _ _ _ X (lv_sub hl [1, 0] rfl) hf
    refine x_bipush 27 C dX11_steps_25 (-2 : Int32) kv_bipush_m2 rfl ?_
    obtain rfl := Option.some.inj hf
    exact R _ _ _ _ X dX11_steps_27
  refine x_iconst 15 C dX11_steps_14 (-1 : Int32) kv_iconst_m1 rfl ?_
  obtain rfl := Option.some.inj hf
  exact R _ _ _ _ X dX11_steps_15
set_option maxHeartbeats 4000000 in
set_option maxRecDepth 100000 in
theorem c_X10_isPrimeNumber_p1_two (l : Launch) (D : va_G) (T : KT) (h : Nat → Nat) (N : Nat)  (m_drawers_full m_drawers_kept : Int32) (m_drawers_partA m_drawers_partB m_drawers_keptA m_drawers_keptB m_drawers_keptFull : Nat → Int32) (m_tape_size m_tape_plain m_tape_omegas m_tape_end m_tape_place m_tape_plainTold m_tape_omegasTold : Int32) (m_tape_bytes : Nat → Int32) (m_euclid_count : Int32) (m_euclid_last_a m_euclid_last_b m_euclid_lastOfFirst_a m_euclid_lastOfFirst_b m_euclid_lastOfSecond_a m_euclid_lastOfSecond_b m_euclid_next_a m_euclid_next_b m_euclid_nextOfFirst_a m_euclid_nextOfFirst_b m_euclid_nextOfSecond_a m_euclid_nextOfSecond_b m_euclid_q_a m_euclid_q_b : Int64) (m_euclid_quotientA m_euclid_quotientB : Nat → Int64) (m_modulus_step m_modulus_width m_modulus_slant m_modulus_square_a m_modulus_square_b : Int64) (m_factors_count m_factors_threes m_factors_unit : Int32) (m_factors_primeA m_factors_primeB m_factors_norms : Nat → Int64) (m_factors_euclid_count : Int32) (m_factors_euclid_last_a m_factors_euclid_last_b m_factors_euclid_lastOfFirst_a m_factors_euclid_lastOfFirst_b m_factors_euclid_lastOfSecond_a m_factors_euclid_lastOfSecond_b m_factors_euclid_next_a m_factors_euclid_next_b m_factors_euclid_nextOfFirst_a m_factors_euclid_nextOfFirst_b m_factors_euclid_nextOfSecond_a m_factors_euclid_nextOfSecond_b m_factors_euclid_q_a m_factors_euclid_q_b : Int64) (m_factors_euclid_quotientA m_factors_euclid_quotientB : Nat → Int64) (m_factors_left_a m_factors_left_b m_factors_found_a m_factors_found_b m_factors_product_a m_factors_product_b : Int64) (m_primes_count : Int32) (m_primes_primeA m_primes_primeB : Nat → Int32) (m_primes_found_a m_primes_found_b : Int64) (m_rings_foundA m_rings_foundB m_rings_all m_rings_mostOfOneRow m_letters_count : Int32) (m_letters_bytes : Nat → Int32) (m_one_a m_one_b m_two_a m_two_b m_three_a m_three_b m_four_a m_four_b m_out_a m_out_b m_spare_a m_spare_b : Int64) (m_marks : Nat → Int32) (x : Int32 × Int32 × Int32 × Int32 × (Nat → Int64) × (Nat → Int64) × (Nat → Int64) × Int32 × Int64 × Int64 × Int64 × Int64 × Int64 × Int64 × Int64 × Int64 × Int64 × Int64 × Int64 × Int64 × Int64 × Int64 × (Nat → Int64) × (Nat → Int64) × Int64 × Int64 × Int64 × Int64 × Int64 × Int64) (hf : f_X10_isPrimeNumber N m_factors_count m_factors_threes m_factors_unit m_factors_primeA m_factors_primeB m_factors_norms m_factors_euclid_count m_factors_euclid_last_a m_factors_euclid_last_b m_factors_euclid_lastOfFirst_a m_factors_euclid_lastOfFirst_b m_factors_euclid_lastOfSecond_a m_factors_euclid_lastOfSecond_b m_factors_euclid_next_a m_factors_euclid_next_b m_factors_euclid_nextOfFirst_a m_factors_euclid_nextOfFirst_b m_factors_euclid_nextOfSecond_a m_factors_euclid_nextOfSecond_b m_factors_euclid_q_a m_factors_euclid_q_b m_factors_euclid_quotientA m_factors_euclid_quotientB m_factors_left_a m_factors_left_b m_factors_found_a m_factors_found_b m_factors_product_a m_factors_product_b m_two_a m_two_b = some x) : kx_MI l yX10_isPrimeNumber cX10_isPrimeNumber 2 (some .boolean) 6 146 D T [.ref (h 0), .ref (h 46)] (wC T h m_drawers_full m_drawers_kept m_drawers_partA m_drawers_partB m_drawers_keptA m_drawers_keptB m_drawers_keptFull m_tape_size m_tape_plain m_tape_omegas m_tape_end m_tape_place m_tape_plainTold m_tape_omegasTold m_tape_bytes m_euclid_count m_euclid_last_a m_euclid_last_b m_euclid_lastOfFirst_a m_euclid_lastOfFirst_b m_euclid_lastOfSecond_a m_euclid_lastOfSecond_b m_euclid_next_a m_euclid_next_b m_euclid_nextOfFirst_a m_euclid_nextOfFirst_b m_euclid_nextOfSecond_a m_euclid_nextOfSecond_b m_euclid_q_a m_euclid_q_b m_euclid_quotientA m_euclid_quotientB m_modulus_step m_modulus_width m_modulus_slant m_modulus_square_a m_modulus_square_b m_factors_count m_factors_threes m_factors_unit m_factors_primeA m_factors_primeB m_factors_norms m_factors_euclid_count m_factors_euclid_last_a m_factors_euclid_last_b m_factors_euclid_lastOfFirst_a m_factors_euclid_lastOfFirst_b m_factors_euclid_lastOfSecond_a m_factors_euclid_lastOfSecond_b m_factors_euclid_next_a m_factors_euclid_next_b m_factors_euclid_nextOfFirst_a m_factors_euclid_nextOfFirst_b m_factors_euclid_nextOfSecond_a m_factors_euclid_nextOfSecond_b m_factors_euclid_q_a m_factors_euclid_q_b m_factors_euclid_quotientA m_factors_euclid_quotientB m_factors_left_a m_factors_left_b m_factors_found_a m_factors_found_b m_factors_product_a m_factors_product_b m_primes_count m_primes_primeA m_primes_primeB m_primes_found_a m_primes_found_b m_rings_foundA m_rings_foundB m_rings_all m_rings_mostOfOneRow m_letters_count m_letters_bytes m_one_a m_one_b m_two_a m_two_b m_three_a m_three_b m_four_a m_four_b m_out_a m_out_b m_spare_a m_spare_b m_marks) (wC T h m_drawers_full m_drawers_kept m_drawers_partA m_drawers_partB m_drawers_keptA m_drawers_keptB m_drawers_keptFull m_tape_size m_tape_plain m_tape_omegas m_tape_end m_tape_place m_tape_plainTold m_tape_omegasTold m_tape_bytes m_euclid_count m_euclid_last_a m_euclid_last_b m_euclid_lastOfFirst_a m_euclid_lastOfFirst_b m_euclid_lastOfSecond_a m_euclid_lastOfSecond_b m_euclid_next_a m_euclid_next_b m_euclid_nextOfFirst_a m_euclid_nextOfFirst_b m_euclid_nextOfSecond_a m_euclid_nextOfSecond_b m_euclid_q_a m_euclid_q_b m_euclid_quotientA m_euclid_quotientB m_modulus_step m_modulus_width m_modulus_slant m_modulus_square_a m_modulus_square_b x.2.1 x.2.2.1 x.2.2.2.1 x.2.2.2.2.1 x.2.2.2.2.2.1 x.2.2.2.2.2.2.1 x.2.2.2.2.2.2.2.1 x.2.2.2.2.2.2.2.2.1 x.2.2.2.2.2.2.2.2.2.1 x.2.2.2.2.2.2.2.2.2.2.1 x.2.2.2.2.2.2.2.2.2.2.2.1 x.2.2.2.2.2.2.2.2.2.2.2.2.1 x.2.2.2.2.2.2.2.2.2.2.2.2.2.1 x.2.2.2.2.2.2.2.2.2.2.2.2.2.2.1 x.2.2.2.2.2.2.2.2.2.2.2.2.2.2.2.1 x.2.2.2.2.2.2.2.2.2.2.2.2.2.2.2.2.1 x.2.2.2.2.2.2.2.2.2.2.2.2.2.2.2.2.2.1 x.2.2.2.2.2.2.2.2.2.2.2.2.2.2.2.2.2.2.1 x.2.2.2.2.2.2.2.2.2.2.2.2.2.2.2.2.2.2.2.1 x.2.2.2.2.2.2.2.2.2.2.2.2.2.2.2.2.2.2.2.2.1 x.2.2.2.2.2.2.2.2.2.2.2.2.2.2.2.2.2.2.2.2.2.1 x.2.2.2.2.2.2.2.2.2.2.2.2.2.2.2.2.2.2.2.2.2.2.1 x.2.2.2.2.2.2.2.2.2.2.2.2.2.2.2.2.2.2.2.2.2.2.2.1 x.2.2.2.2.2.2.2.2.2.2.2.2.2.2.2.2.2.2.2.2.2.2.2.2.1 x.2.2.2.2.2.2.2.2.2.2.2.2.2.2.2.2.2.2.2.2.2.2.2.2.2.1 x.2.2.2.2.2.2.2.2.2.2.2.2.2.2.2.2.2.2.2.2.2.2.2.2.2.2.1 x.2.2.2.2.2.2.2.2.2.2.2.2.2.2.2.2.2.2.2.2.2.2.2.2.2.2.2.1 x.2.2.2.2.2.2.2.2.2.2.2.2.2.2.2.2.2.2.2.2.2.2.2.2.2.2.2.2.1 x.2.2.2.2.2.2.2.2.2.2.2.2.2.2.2.2.2.2.2.2.2.2.2.2.2.2.2.2.2 m_primes_count m_primes_primeA m_primes_primeB m_primes_found_a m_primes_found_b m_rings_foundA m_rings_foundB m_rings_all m_rings_mostOfOneRow m_letters_count m_letters_bytes m_one_a m_one_b m_two_a m_two_b m_three_a m_three_b m_four_a m_four_b m_out_a m_out_b m_spare_a m_spare_b m_marks) x.1 := by
  refine kx_ofMZ RX10 rfl (plainFor_of_name (x := yX10_isPrimeNumber) kpn_X10) rfl ?_
  intro E A H ls _ C X R hl
  have hl : lv_has ls 2 [(0, .ref (h 0)), (1, .ref (h 46))] := hl
  rw [f_X10_isPrimeNumber] at hf
  refine x_aload_n 1 C dX10_isPrimeNumber_0 hl 1 rfl rfl ?_
  obtain ⟨y1, hy1, hf⟩ := kx_bind hf
  refine x_callVi 4 C dX10_isPrimeNumber_1 X hl kl_X10_170 (c_X5_isNought E.2.1 D T (h 46)  m_two_a m_two_b y1 hy1) rfl rfl [] rfl rfl rfl rfl rfl cb_55 rfl (fun H locs X => ?_)
  refine x_if_eq 9 7 C dX10_isPrimeNumber_4 rfl rfl hf (fun hf => ?_) (fun hf => ?_)
  · refine x_aload_n 10 C dX10_isPrimeNumber_9 hl 0 rfl rfl ?_
    refine x_get 13 C dX10_isPrimeNumber_10 X kf_X10_42 0 rfl rfl rfl ?_
    refine x_aload_n 14 C dX10_isPrimeNumber_13 hl 1 rfl rfl ?_
    obtain ⟨y14, hy14, hf⟩ := kx_bind hf
    refine x_callVv 17 C dX10_isPrimeNumber_14 X hl kl_X10_228 (c_X2_spell E.2.1 D T (h 21) (h 22) (h 23) (h 24) (h 25) (h 26) (h 27) (h 28) (h 29) (h 30) (h 31) (h 32) (h 33) (h 34) (h 35) (h 36) (h 37) (h 46) N  m_factors_count m_factors_threes m_factors_unit m_factors_primeA m_factors_primeB m_factors_norms m_factors_euclid_count m_factors_euclid_last_a m_factors_euclid_last_b m_factors_euclid_lastOfFirst_a m_factors_euclid_lastOfFirst_b m_factors_euclid_lastOfSecond_a m_factors_euclid_lastOfSecond_b m_factors_euclid_next_a m_factors_euclid_next_b m_factors_euclid_nextOfFirst_a m_factors_euclid_nextOfFirst_b m_factors_euclid_nextOfSecond_a m_factors_euclid_nextOfSecond_b m_factors_euclid_q_a m_factors_euclid_q_b m_factors_euclid_quotientA m_factors_euclid_quotientB m_factors_left_a m_factors_left_b m_factors_found_a m_factors_found_b m_factors_product_a m_factors_product_b m_two_a m_two_b y14 hy14) rfl rfl [] rfl rfl rfl rfl rfl cb_83 rfl (fun H locs X => ?_)
    refine x_aload_n 18 C dX10_isPrimeNumber_17 hl 0 rfl rfl ?_
    refine x_get 21 C dX10_isPrimeNumber_18 X kf_X10_42 0 rfl rfl rfl ?_
    obtain ⟨y21, hy21, hf⟩ := kx_bind hf
    refine x_callVi 24 C dX10_isPrimeNumber_21 X hl kl_X10_466 (c_X2_total E.2.1 D T (h 21) (h 22) (h 23) (h 24) (h 25) (h 35) (h 36) (h 37)  y14.1 y14.2.1 y14.2.2.1 y21 hy21) rfl rfl [] rfl rfl rfl rfl rfl cb_17 rfl (fun H locs X => ?_)
    refine x_iconst 25 C dX10_isPrimeNumber_24 (1 : Int32) kv_iconst_1 rfl ?_
    refine x_icmp_ne 32 28 C dX10_isPrimeNumber_25 rfl rfl hf (fun hf => ?_) (fun hf => ?_)
    · refine x_iconst 33 C dX10_isPrimeNumber_32 (0 : Int32) kv_iconst_0 rfl ?_
      obtain rfl := Option.some.inj hf
      exact R _ _ _ _ X kb_0 dX10_isPrimeNumber_33
    refine x_iconst 29 C dX10_isPrimeNumber_28 (1 : Int32) kv_iconst_1 rfl ?_
    refine x_goto 33 C dX10_isPrimeNumber_29 rfl ?_
    obtain rfl := Option.some.inj hf
    exact R _ _ _ _ X kb_1 dX10_isPrimeNumber_33
  refine x_iconst 8 C dX10_isPrimeNumber_7 (0 : Int32) kv_iconst_0 rfl ?_
  obtain rfl := Option.some.inj hf
  exact R _ _ _ _ X kb_0 dX10_isPrimeNumber_8
set_option maxHeartbeats 4000000 in
set_option maxRecDepth 100000 in
theorem c_X10_direct (l : Launch) (D : va_G) (T : KT) (h : Nat → Nat) (N : Nat) (v1 v2 v3 : Int32) (m_drawers_full m_drawers_kept : Int32) (m_drawers_partA m_drawers_partB m_drawers_keptA m_drawers_keptB m_drawers_keptFull : Nat → Int32) (m_tape_size m_tape_plain m_tape_omegas m_tape_end m_tape_place m_tape_plainTold m_tape_omegasTold : Int32) (m_tape_bytes : Nat → Int32) (m_euclid_count : Int32) (m_euclid_last_a m_euclid_last_b m_euclid_lastOfFirst_a m_euclid_lastOfFirst_b m_euclid_lastOfSecond_a m_euclid_lastOfSecond_b m_euclid_next_a m_euclid_next_b m_euclid_nextOfFirst_a m_euclid_nextOfFirst_b m_euclid_nextOfSecond_a m_euclid_nextOfSecond_b m_euclid_q_a m_euclid_q_b : Int64) (m_euclid_quotientA m_euclid_quotientB : Nat → Int64) (m_modulus_step m_modulus_width m_modulus_slant m_modulus_square_a m_modulus_square_b : Int64) (m_factors_count m_factors_threes m_factors_unit : Int32) (m_factors_primeA m_factors_primeB m_factors_norms : Nat → Int64) (m_factors_euclid_count : Int32) (m_factors_euclid_last_a m_factors_euclid_last_b m_factors_euclid_lastOfFirst_a m_factors_euclid_lastOfFirst_b m_factors_euclid_lastOfSecond_a m_factors_euclid_lastOfSecond_b m_factors_euclid_next_a m_factors_euclid_next_b m_factors_euclid_nextOfFirst_a m_factors_euclid_nextOfFirst_b m_factors_euclid_nextOfSecond_a m_factors_euclid_nextOfSecond_b m_factors_euclid_q_a m_factors_euclid_q_b : Int64) (m_factors_euclid_quotientA m_factors_euclid_quotientB : Nat → Int64) (m_factors_left_a m_factors_left_b m_factors_found_a m_factors_found_b m_factors_product_a m_factors_product_b : Int64) (m_primes_count : Int32) (m_primes_primeA m_primes_primeB : Nat → Int32) (m_primes_found_a m_primes_found_b : Int64) (m_rings_foundA m_rings_foundB m_rings_all m_rings_mostOfOneRow m_letters_count : Int32) (m_letters_bytes : Nat → Int32) (m_one_a m_one_b m_two_a m_two_b m_three_a m_three_b m_four_a m_four_b m_out_a m_out_b m_spare_a m_spare_b : Int64) (m_marks : Nat → Int32) (x : Int32 × Int64 × Int64 × Int64 × Int64 × Int64 × Int32 × Int32 × Int32 × (Nat → Int64) × (Nat → Int64) × (Nat → Int64) × Int32 × Int64 × Int64 × Int64 × Int64 × Int64 × Int64 × Int64 × Int64 × Int64 × Int64 × Int64 × Int64 × Int64 × Int64 × (Nat → Int64) × (Nat → Int64) × Int64 × Int64 × Int64 × Int64 × Int64 × Int64 × Int64 × Int64 × Int64 × Int64 × Int64 × Int64) (hf : f_X10_direct N v1 v2 v3 m_drawers_full m_drawers_partA m_drawers_partB m_modulus_step m_modulus_width m_modulus_slant m_modulus_square_a m_modulus_square_b m_factors_count m_factors_threes m_factors_unit m_factors_primeA m_factors_primeB m_factors_norms m_factors_euclid_count m_factors_euclid_last_a m_factors_euclid_last_b m_factors_euclid_lastOfFirst_a m_factors_euclid_lastOfFirst_b m_factors_euclid_lastOfSecond_a m_factors_euclid_lastOfSecond_b m_factors_euclid_next_a m_factors_euclid_next_b m_factors_euclid_nextOfFirst_a m_factors_euclid_nextOfFirst_b m_factors_euclid_nextOfSecond_a m_factors_euclid_nextOfSecond_b m_factors_euclid_q_a m_factors_euclid_q_b m_factors_euclid_quotientA m_factors_euclid_quotientB m_factors_left_a m_factors_left_b m_factors_found_a m_factors_found_b m_factors_product_a m_factors_product_b m_one_a m_one_b m_two_a m_two_b m_out_a m_out_b = some x) : kx_MI l yX10_direct cX10_direct 5 (some .int) 7 167 D T [.ref (h 0), .int v1, .int v2, .int v3] (wC T h m_drawers_full m_drawers_kept m_drawers_partA m_drawers_partB m_drawers_keptA m_drawers_keptB m_drawers_keptFull m_tape_size m_tape_plain m_tape_omegas m_tape_end m_tape_place m_tape_plainTold m_tape_omegasTold m_tape_bytes m_euclid_count m_euclid_last_a m_euclid_last_b m_euclid_lastOfFirst_a m_euclid_lastOfFirst_b m_euclid_lastOfSecond_a m_euclid_lastOfSecond_b m_euclid_next_a m_euclid_next_b m_euclid_nextOfFirst_a m_euclid_nextOfFirst_b m_euclid_nextOfSecond_a m_euclid_nextOfSecond_b m_euclid_q_a m_euclid_q_b m_euclid_quotientA m_euclid_quotientB m_modulus_step m_modulus_width m_modulus_slant m_modulus_square_a m_modulus_square_b m_factors_count m_factors_threes m_factors_unit m_factors_primeA m_factors_primeB m_factors_norms m_factors_euclid_count m_factors_euclid_last_a m_factors_euclid_last_b m_factors_euclid_lastOfFirst_a m_factors_euclid_lastOfFirst_b m_factors_euclid_lastOfSecond_a m_factors_euclid_lastOfSecond_b m_factors_euclid_next_a m_factors_euclid_next_b m_factors_euclid_nextOfFirst_a m_factors_euclid_nextOfFirst_b m_factors_euclid_nextOfSecond_a m_factors_euclid_nextOfSecond_b m_factors_euclid_q_a m_factors_euclid_q_b m_factors_euclid_quotientA m_factors_euclid_quotientB m_factors_left_a m_factors_left_b m_factors_found_a m_factors_found_b m_factors_product_a m_factors_product_b m_primes_count m_primes_primeA m_primes_primeB m_primes_found_a m_primes_found_b m_rings_foundA m_rings_foundB m_rings_all m_rings_mostOfOneRow m_letters_count m_letters_bytes m_one_a m_one_b m_two_a m_two_b m_three_a m_three_b m_four_a m_four_b m_out_a m_out_b m_spare_a m_spare_b m_marks) (wC T h m_drawers_full m_drawers_kept m_drawers_partA m_drawers_partB m_drawers_keptA m_drawers_keptB m_drawers_keptFull m_tape_size m_tape_plain m_tape_omegas m_tape_end m_tape_place m_tape_plainTold m_tape_omegasTold m_tape_bytes m_euclid_count m_euclid_last_a m_euclid_last_b m_euclid_lastOfFirst_a m_euclid_lastOfFirst_b m_euclid_lastOfSecond_a m_euclid_lastOfSecond_b m_euclid_next_a m_euclid_next_b m_euclid_nextOfFirst_a m_euclid_nextOfFirst_b m_euclid_nextOfSecond_a m_euclid_nextOfSecond_b m_euclid_q_a m_euclid_q_b m_euclid_quotientA m_euclid_quotientB x.2.1 x.2.2.1 x.2.2.2.1 x.2.2.2.2.1 x.2.2.2.2.2.1 x.2.2.2.2.2.2.1 x.2.2.2.2.2.2.2.1 x.2.2.2.2.2.2.2.2.1 x.2.2.2.2.2.2.2.2.2.1 x.2.2.2.2.2.2.2.2.2.2.1 x.2.2.2.2.2.2.2.2.2.2.2.1 x.2.2.2.2.2.2.2.2.2.2.2.2.1 x.2.2.2.2.2.2.2.2.2.2.2.2.2.1 x.2.2.2.2.2.2.2.2.2.2.2.2.2.2.1 x.2.2.2.2.2.2.2.2.2.2.2.2.2.2.2.1 x.2.2.2.2.2.2.2.2.2.2.2.2.2.2.2.2.1 x.2.2.2.2.2.2.2.2.2.2.2.2.2.2.2.2.2.1 x.2.2.2.2.2.2.2.2.2.2.2.2.2.2.2.2.2.2.1 x.2.2.2.2.2.2.2.2.2.2.2.2.2.2.2.2.2.2.2.1 x.2.2.2.2.2.2.2.2.2.2.2.2.2.2.2.2.2.2.2.2.1 x.2.2.2.2.2.2.2.2.2.2.2.2.2.2.2.2.2.2.2.2.2.1 x.2.2.2.2.2.2.2.2.2.2.2.2.2.2.2.2.2.2.2.2.2.2.1 x.2.2.2.2.2.2.2.2.2.2.2.2.2.2.2.2.2.2.2.2.2.2.2.1 x.2.2.2.2.2.2.2.2.2.2.2.2.2.2.2.2.2.2.2.2.2.2.2.2.1 x.2.2.2.2.2.2.2.2.2.2.2.2.2.2.2.2.2.2.2.2.2.2.2.2.2.1 x.2.2.2.2.2.2.2.2.2.2.2.2.2.2.2.2.2.2.2.2.2.2.2.2.2.2.1 x.2.2.2.2.2.2.2.2.2.2.2.2.2.2.2.2.2.2.2.2.2.2.2.2.2.2.2.1 x.2.2.2.2.2.2.2.2.2.2.2.2.2.2.2.2.2.2.2.2.2.2.2.2.2.2.2.2.1 x.2.2.2.2.2.2.2.2.2.2.2.2.2.2.2.2.2.2.2.2.2.2.2.2.2.2.2.2.2.1 x.2.2.2.2.2.2.2.2.2.2.2.2.2.2.2.2.2.2.2.2.2.2.2.2.2.2.2.2.2.2.1 x.2.2.2.2.2.2.2.2.2.2.2.2.2.2.2.2.2.2.2.2.2.2.2.2.2.2.2.2.2.2.2.1 x.2.2.2.2.2.2.2.2.2.2.2.2.2.2.2.2.2.2.2.2.2.2.2.2.2.2.2.2.2.2.2.2.1 x.2.2.2.2.2.2.2.2.2.2.2.2.2.2.2.2.2.2.2.2.2.2.2.2.2.2.2.2.2.2.2.2.2.1 x.2.2.2.2.2.2.2.2.2.2.2.2.2.2.2.2.2.2.2.2.2.2.2.2.2.2.2.2.2.2.2.2.2.2.1 m_primes_count m_primes_primeA m_primes_primeB m_primes_found_a m_primes_found_b m_rings_foundA m_rings_foundB m_rings_all m_rings_mostOfOneRow m_letters_count m_letters_bytes x.2.2.2.2.2.2.2.2.2.2.2.2.2.2.2.2.2.2.2.2.2.2.2.2.2.2.2.2.2.2.2.2.2.2.2.1 x.2.2.2.2.2.2.2.2.2.2.2.2.2.2.2.2.2.2.2.2.2.2.2.2.2.2.2.2.2.2.2.2.2.2.2.2.1 x.2.2.2.2.2.2.2.2.2.2.2.2.2.2.2.2.2.2.2.2.2.2.2.2.2.2.2.2.2.2.2.2.2.2.2.2.2.1 x.2.2.2.2.2.2.2.2.2.2.2.2.2.2.2.2.2.2.2.2.2.2.2.2.2.2.2.2.2.2.2.2.2.2.2.2.2.2.1 m_three_a m_three_b m_four_a m_four_b x.2.2.2.2.2.2.2.2.2.2.2.2.2.2.2.2.2.2.2.2.2.2.2.2.2.2.2.2.2.2.2.2.2.2.2.2.2.2.2.1 x.2.2.2.2.2.2.2.2.2.2.2.2.2.2.2.2.2.2.2.2.2.2.2.2.2.2.2.2.2.2.2.2.2.2.2.2.2.2.2.2 m_spare_a m_spare_b m_marks) x.1 := by
  refine kx_ofMI RX10 rfl (plainFor_of_name (x := yX10_direct) kpn_X10) rfl ?_
  intro E A H ls _ C X R hl
  have hl : lv_has ls 5 [(0, .ref (h 0)), (1, .int v1), (2, .int v2), (3, .int v3)] := hl
  rw [f_X10_direct] at hf
  refine x_iload_n 1 C dX10_direct_0 hl 3 rfl rfl ?_
  refine x_if_lt 9 4 C dX10_direct_1 rfl rfl hf (fun hf => ?_) (fun hf => ?_)
  · refine x_iconst 10 C dX10_direct_9 (-1 : Int32) kv_iconst_m1 rfl ?_
    obtain rfl := Option.some.inj hf
    exact R _ _ _ _ X dX10_direct_10
  refine x_iload_n 5 C dX10_direct_4 hl 3 rfl rfl ?_
  refine x_iconst 6 C dX10_direct_5 (1 : Int32) kv_iconst_1 rfl ?_
  refine x_icmp_le 11 9 C dX10_direct_6 rfl rfl hf (fun hf => ?_) (fun hf => ?_)
  · refine x_aload_n 12 C dX10_direct_11 hl 0 rfl rfl ?_
    refine x_iload_n 13 C dX10_direct_12 hl 1 rfl rfl ?_
    refine x_iload_n 14 C dX10_direct_13 hl 2 rfl rfl ?_
    obtain ⟨y14, hy14, hf⟩ := kx_bind hf
    refine x_callVi0 17 C dX10_direct_14 X hl kl_X10_176 (c_X10_loadTwo E.2.1 D T h v1 v2 m_drawers_full m_drawers_kept m_drawers_partA m_drawers_partB m_drawers_keptA m_drawers_keptB m_drawers_keptFull m_tape_size m_tape_plain m_tape_omegas m_tape_end m_tape_place m_tape_plainTold m_tape_omegasTold m_tape_bytes m_euclid_count m_euclid_last_a m_euclid_last_b m_euclid_lastOfFirst_a m_euclid_lastOfFirst_b m_euclid_lastOfSecond_a m_euclid_lastOfSecond_b m_euclid_next_a m_euclid_next_b m_euclid_nextOfFirst_a m_euclid_nextOfFirst_b m_euclid_nextOfSecond_a m_euclid_nextOfSecond_b m_euclid_q_a m_euclid_q_b m_euclid_quotientA m_euclid_quotientB m_modulus_step m_modulus_width m_modulus_slant m_modulus_square_a m_modulus_square_b m_factors_count m_factors_threes m_factors_unit m_factors_primeA m_factors_primeB m_factors_norms m_factors_euclid_count m_factors_euclid_last_a m_factors_euclid_last_b m_factors_euclid_lastOfFirst_a m_factors_euclid_lastOfFirst_b m_factors_euclid_lastOfSecond_a m_factors_euclid_lastOfSecond_b m_factors_euclid_next_a m_factors_euclid_next_b m_factors_euclid_nextOfFirst_a m_factors_euclid_nextOfFirst_b m_factors_euclid_nextOfSecond_a m_factors_euclid_nextOfSecond_b m_factors_euclid_q_a m_factors_euclid_q_b m_factors_euclid_quotientA m_factors_euclid_quotientB m_factors_left_a m_factors_left_b m_factors_found_a m_factors_found_b m_factors_product_a m_factors_product_b m_primes_count m_primes_primeA m_primes_primeB m_primes_found_a m_primes_found_b m_rings_foundA m_rings_foundB m_rings_all m_rings_mostOfOneRow m_letters_count m_letters_bytes m_one_a m_one_b m_two_a m_two_b m_three_a m_three_b m_four_a m_four_b m_out_a m_out_b m_spare_a m_spare_b m_marks y14 hy14) rfl rfl [] rfl rfl rfl rfl rfl rfl (fun H locs X => ?_)
    refine x_istore 19 C dX10_direct_17 [(4, .int y14.1), (0, .ref (h 0)), (1, .int v1), (2, .int v2), (3, .int v3)] hl rfl rfl rfl (fun ls hl => ?_)
    refine x_iload 21 C dX10_direct_19 hl 0 rfl rfl ?_
    refine x_if_eq 27 24 C dX10_direct_21 rfl rfl hf (fun hf => ?_) (fun hf => ?_)
    · refine x_aload_n 28 C dX10_direct_27 hl 1 rfl rfl ?_
      refine x_get 31 C dX10_direct_28 X kf_X10_74 0 rfl rfl rfl ?_
      obtain ⟨y31, hy31, hf⟩ := kx_bind hf
      refine x_callVi 34 C dX10_direct_31 X hl kl_X10_156 (c_X5_isOfThree E.2.1 D T (h 46)  y14.2.2.2.1 y14.2.2.2.2 y31 hy31) rfl rfl [] rfl rfl rfl rfl rfl cb_55 rfl (fun H locs X => ?_)
      refine x_if_ne 48 37 C dX10_direct_34 rfl rfl hf (fun hf => ?_) (fun hf => ?_)
      · refine x_bipush 50 C dX10_direct_48 (-3 : Int32) kv_bipush_m3 rfl ?_
        obtain rfl := Option.some.inj hf
        exact R _ _ _ _ X dX10_direct_50
      refine x_aload_n 38 C dX10_direct_37 hl 1 rfl rfl ?_
      refine x_aload_n 39 C dX10_direct_38 hl 1 rfl rfl ?_
      refine x_get 42 C dX10_direct_39 X kf_X10_74 0 rfl rfl rfl ?_
      obtain ⟨y42, hy42, hf⟩ := kx_bind hf
      refine x_callVi0 45 C dX10_direct_42 X hl kl_X10_162 (c_X10_isPrimeNumber_p1_two E.2.1 D T h N  m_drawers_full m_drawers_kept m_drawers_partA m_drawers_partB m_drawers_keptA m_drawers_keptB m_drawers_keptFull m_tape_size m_tape_plain m_tape_omegas m_tape_end m_tape_place m_tape_plainTold m_tape_omegasTold m_tape_bytes m_euclid_count m_euclid_last_a m_euclid_last_b m_euclid_lastOfFirst_a m_euclid_lastOfFirst_b m_euclid_lastOfSecond_a m_euclid_lastOfSecond_b m_euclid_next_a m_euclid_next_b m_euclid_nextOfFirst_a m_euclid_nextOfFirst_b m_euclid_nextOfSecond_a m_euclid_nextOfSecond_b m_euclid_q_a m_euclid_q_b m_euclid_quotientA m_euclid_quotientB m_modulus_step m_modulus_width m_modulus_slant m_modulus_square_a m_modulus_square_b m_factors_count m_factors_threes m_factors_unit m_factors_primeA m_factors_primeB m_factors_norms m_factors_euclid_count m_factors_euclid_last_a m_factors_euclid_last_b m_factors_euclid_lastOfFirst_a m_factors_euclid_lastOfFirst_b m_factors_euclid_lastOfSecond_a m_factors_euclid_lastOfSecond_b m_factors_euclid_next_a m_factors_euclid_next_b m_factors_euclid_nextOfFirst_a m_factors_euclid_nextOfFirst_b m_factors_euclid_nextOfSecond_a m_factors_euclid_nextOfSecond_b m_factors_euclid_q_a m_factors_euclid_q_b m_factors_euclid_quotientA m_factors_euclid_quotientB m_factors_left_a m_factors_left_b m_factors_found_a m_factors_found_b m_factors_product_a m_factors_product_b m_primes_count m_primes_primeA m_primes_primeB m_primes_found_a m_primes_found_b m_rings_foundA m_rings_foundB m_rings_all m_rings_mostOfOneRow m_letters_count m_letters_bytes y14.2.1 y14.2.2.1 y14.2.2.2.1 y14.2.2.2.2 m_three_a m_three_b m_four_a m_four_b m_out_a m_out_b m_spare_a m_spare_b m_marks y42 hy42) rfl rfl [] rfl rfl rfl rfl rfl rfl (fun H locs X => ?_)
      refine x_if_ne 51 48 C dX10_direct_45 rfl rfl hf (fun hf => ?_) (fun hf => ?_)
      · refine x_aload_n 52 C dX10_direct_51 hl 1 rfl rfl ?_
        refine x_get 55 C dX10_direct_52 X kf_X10_35 0 rfl rfl rfl ?_
        refine x_aload_n 56 C dX10_direct_55 hl 1 rfl rfl ?_
        refine x_get 59 C dX10_direct_56 X kf_X10_74 0 rfl rfl rfl ?_
        obtain ⟨y59, hy59, hf⟩ := kx_bind hf
        refine x_callVi 62 C dX10_direct_59 X hl kl_X10_284 (c_X4_open E.2.1 D T (h 19) (h 20) (h 46) N  m_modulus_step m_modulus_width m_modulus_slant y14.2.2.2.1 y14.2.2.2.2 y59 hy59) rfl rfl [] rfl rfl rfl rfl rfl cb_100 rfl (fun H locs X => ?_)
        refine x_pop 63 C dX10_direct_62 rfl rfl ?_
        refine x_aload_n 64 C dX10_direct_63 hl 1 rfl rfl ?_
        refine x_get 67 C dX10_direct_64 X kf_X10_35 0 rfl rfl rfl ?_
        refine x_aload_n 68 C dX10_direct_67 hl 1 rfl rfl ?_
        refine x_get 71 C dX10_direct_68 X kf_X10_70 0 rfl rfl rfl ?_
        refine x_aload_n 72 C dX10_direct_71 hl 1 rfl rfl ?_
        refine x_get 75 C dX10_direct_72 X kf_X10_74 0 rfl rfl rfl ?_
        obtain ⟨y75, hy75, hf⟩ := kx_bind hf
        refine x_callVl 78 C dX10_direct_75 X hl kl_X10_152 (c_X5_norm E.2.1 D T (h 46)  y14.2.2.2.1 y14.2.2.2.2 y75 hy75) rfl rfl [.ref (h 45), .ref (h 19)] rfl rfl rfl rfl rfl cb_55 rfl (fun H locs X => ?_)
        refine x_lconst 79 C dX10_direct_78 (1 : Int64) kv_lconst_1 rfl ?_
        refine x_lsub 80 C dX10_direct_79 rfl ?_
        refine x_ldc2_w 83 C dX10_direct_80 (3 : Int64) kc_X10_377 rfl ?_
        refine x_ldiv0 84 C dX10_direct_83 kz_l_3 rfl ?_
        refine x_aload_n 85 C dX10_direct_84 hl 1 rfl rfl ?_
        refine x_get 88 C dX10_direct_85 X kf_X10_83 0 rfl rfl rfl ?_
        obtain ⟨y88, hy88, hf⟩ := kx_bind hf
        refine x_callVv 91 C dX10_direct_88 X hl kl_X10_276 (c_X4_raise E.2.1 D T (h 19) (h 20) (h 45) (h 49) N ((y75 - (1 : Int64)) / (3 : Int64)) y59.2.1 y59.2.2.1 y59.2.2.2 m_modulus_square_a m_modulus_square_b y14.2.1 y14.2.2.1 m_out_a m_out_b y88 hy88) rfl rfl [] rfl rfl rfl rfl rfl cb_86 rfl (fun H locs X => ?_)
        refine x_aload_n 92 C dX10_direct_91 hl 1 rfl rfl ?_
        refine x_get 95 C dX10_direct_92 X kf_X10_83 0 rfl rfl rfl ?_
        refine x_iload_n 96 C dX10_direct_95 hl 4 rfl rfl ?_
        obtain ⟨y96, hy96, hf⟩ := kx_bind hf
        refine x_callSi 99 C dX10_direct_96 X hl kl_X10_273 (c_X10_part E.2.1 D T (h 49) v3 y88.2.2.1 y88.2.2.2 y96 hy96) [] rfl rfl rfl rfl rfl cb_73 rfl (fun H locs X => ?_)
        obtain rfl := Option.some.inj hf
        exact R _ _ _ _ X dX10_direct_99
      refine x_bipush 50 C dX10_direct_48 (-3 : Int32) kv_bipush_m3 rfl ?_
      obtain rfl := Option.some.inj hf
      exact R _ _ _ _ X dX10_direct_50
    refine x_iload 26 C dX10_direct_24 hl 0 rfl rfl ?_
    obtain rfl := Option.some.inj hf
    exact R _ _ _ _ X dX10_direct_26
  refine x_iconst 10 C dX10_direct_9 (-1 : Int32) kv_iconst_m1 rfl ?_
  obtain rfl := Option.some.inj hf
  exact R _ _ _ _ X dX10_direct_10
set_option maxHeartbeats 4000000 in
set_option maxRecDepth 100000 in
theorem c_X11_direct (l : Launch) (D : va_G) (T : KT) (h : Nat → Nat) (N : Nat) (v1 v2 v3 : Int32) (m_taped m_states : Int32) (m_ra m_rb : Int64) (m_threes m_primes m_ones m_unit : Int32) (m_allParts m_allNorms m_allClasses : Int64) (m_odd : Int32) (m_boxWide m_boxHigh m_boxStep : Int64) (m_partingMany : Int32) (m_qa m_qb m_la m_lb m_sa m_sb m_ta m_tb : Int64) (m_listed m_tells m_wanted m_found : Int32) (m_bits : Int64) (m_power2 m_rings m_ringA m_ringB m_seedNow : Int32) (m_tape m_has m_keptHas m_first m_second m_keptFirst m_keptSecond m_pa m_pb m_pNorm m_cubed m_isOpen m_signs m_often m_la0 m_lb0 : Nat → Int32) (x : Int32 × Int64 × Int64 × Int64 × Int64 × Int64) (hf : f_X11_direct N v1 v2 v3 m_ra m_rb m_boxWide m_boxHigh m_boxStep m_has m_first m_second = some x) : kx_MI l yX11_direct cX11_direct 4 (some .int) 5 138 D T [.ref (h 0), .int v1, .int v2, .int v3] (wM T h m_taped m_states m_ra m_rb m_threes m_primes m_ones m_unit m_allParts m_allNorms m_allClasses m_odd m_boxWide m_boxHigh m_boxStep m_partingMany m_qa m_qb m_la m_lb m_sa m_sb m_ta m_tb m_listed m_tells m_wanted m_found m_bits m_power2 m_rings m_ringA m_ringB m_seedNow m_tape m_has m_keptHas m_first m_second m_keptFirst m_keptSecond m_pa m_pb m_pNorm m_cubed m_isOpen m_signs m_often m_la0 m_lb0) (wM T h m_taped m_states x.2.1 x.2.2.1 m_threes m_primes m_ones m_unit m_allParts m_allNorms m_allClasses m_odd x.2.2.2.1 x.2.2.2.2.1 x.2.2.2.2.2 m_partingMany m_qa m_qb m_la m_lb m_sa m_sb m_ta m_tb m_listed m_tells m_wanted m_found m_bits m_power2 m_rings m_ringA m_ringB m_seedNow m_tape m_has m_keptHas m_first m_second m_keptFirst m_keptSecond m_pa m_pb m_pNorm m_cubed m_isOpen m_signs m_often m_la0 m_lb0) x.1 := by
  refine kx_ofMI RX11 rfl (plainFor_of_name (x := yX11_direct) kpn_X11) rfl ?_
  intro E A H ls _ C X R hl
  have hl : lv_has ls 4 [(0, .ref (h 0)), (1, .int v1), (2, .int v2), (3, .int v3)] := hl
  rw [f_X11_direct] at hf
  refine x_iload_n 1 C dX11_direct_0 hl 1 rfl rfl ?_
  refine x_iload_n 2 C dX11_direct_1 hl 2 rfl rfl ?_
  refine x_iload_n 3 C dX11_direct_2 hl 3 rfl rfl ?_
  obtain ⟨y3, hy3, hf⟩ := kx_bind hf
  refine x_callSi 6 C dX11_direct_3 X hl kl_X11_265 (c_X11_areDrawers E.2.1 D T  v1 v2 v3  y3 hy3) [] rfl rfl rfl rfl rfl cb_7 rfl (fun H locs X => ?_)
  refine x_if_ne 11 9 C dX11_direct_6 rfl rfl hf (fun hf => ?_) (fun hf => ?_)
  · refine x_aload_n 12 C dX11_direct_11 hl 0 rfl rfl ?_
    refine x_iload_n 13 C dX11_direct_12 hl 1 rfl rfl ?_
    refine x_iload_n 14 C dX11_direct_13 hl 2 rfl rfl ?_
    obtain ⟨y14, hy14, hf⟩ := kx_bind hf
    refine x_callVi0 17 C dX11_direct_14 X hl kl_X11_269 (c_X11_hasBoth E.2.1 D T h v1 v2 m_taped m_states m_ra m_rb m_threes m_primes m_ones m_unit m_allParts m_allNorms m_allClasses m_odd m_boxWide m_boxHigh m_boxStep m_partingMany m_qa m_qb m_la m_lb m_sa m_sb m_ta m_tb m_listed m_tells m_wanted m_found m_bits m_power2 m_rings m_ringA m_ringB m_seedNow m_tape m_has m_keptHas m_first m_second m_keptFirst m_keptSecond m_pa m_pb m_pNorm m_cubed m_isOpen m_signs m_often m_la0 m_lb0 y14 hy14) rfl rfl [] rfl rfl rfl rfl rfl rfl (fun H locs X => ?_)
    refine x_if_ne 23 20 C dX11_direct_17 rfl rfl hf (fun hf => ?_) (fun hf => ?_)
    · refine x_aload_n 24 C dX11_direct_23 hl 0 rfl rfl ?_
      refine x_get 27 C dX11_direct_24 X kf_X11_20 0 rfl rfl rfl ?_
      refine x_iload_n 28 C dX11_direct_27 hl 2 rfl rfl ?_
      refine x_iald 29 C dX11_direct_28 X 4 rfl hf rfl (fun hf => ?_)
      refine x_i2l 30 C dX11_direct_29 rfl ?_
      refine x_aload_n 31 C dX11_direct_30 hl 0 rfl rfl ?_
      refine x_get 34 C dX11_direct_31 X kf_X11_24 0 rfl rfl rfl ?_
      refine x_iload_n 35 C dX11_direct_34 hl 2 rfl rfl ?_
      refine x_iald 36 C dX11_direct_35 X 5 rfl hf rfl (fun hf => ?_)
      refine x_i2l 37 C dX11_direct_36 rfl ?_
      obtain ⟨y37, hy37, hf⟩ := kx_bind hf
      refine x_callSi 40 C dX11_direct_37 X hl kl_X11_165 (c_X11_isPrime E.2.1 D T  N ((m_first (v2).toNatClampNeg)).toInt64 ((m_second (v2).toNatClampNeg)).toInt64  y37 hy37) [] rfl rfl rfl rfl rfl cb_7 rfl (fun H locs X => ?_)
      refine x_if_eq 63 43 C dX11_direct_40 rfl rfl hf (fun hf => ?_) (fun hf => ?_)
      · refine x_bipush 65 C dX11_direct_63 (-3 : Int32) kv_bipush_m3 rfl ?_
        obtain rfl := Option.some.inj hf
        exact R _ _ _ _ X dX11_direct_65
      refine x_aload_n 44 C dX11_direct_43 hl 0 rfl rfl ?_
      refine x_get 47 C dX11_direct_44 X kf_X11_20 0 rfl rfl rfl ?_
      refine x_iload_n 48 C dX11_direct_47 hl 2 rfl rfl ?_
      refine x_iald 49 C dX11_direct_48 X 4 rfl hf rfl (fun hf => ?_)
      refine x_i2l 50 C dX11_direct_49 rfl ?_
      refine x_aload_n 51 C dX11_direct_50 hl 0 rfl rfl ?_
      refine x_get 54 C dX11_direct_51 X kf_X11_24 0 rfl rfl rfl ?_
      refine x_iload_n 55 C dX11_direct_54 hl 2 rfl rfl ?_
      refine x_iald 56 C dX11_direct_55 X 5 rfl hf rfl (fun hf => ?_)
      refine x_i2l 57 C dX11_direct_56 rfl ?_
      obtain ⟨y57, hy57, hf⟩ := kx_bind hf
      refine x_callSi 60 C dX11_direct_57 X hl kl_X11_142 (c_X11_isThree E.2.1 D T  ((m_first (v2).toNatClampNeg)).toInt64 ((m_second (v2).toNatClampNeg)).toInt64  y57 hy57) [] rfl rfl rfl rfl rfl cb_7 rfl (fun H locs X => ?_)
      refine x_if_eq 66 63 C dX11_direct_60 rfl rfl hf (fun hf => ?_) (fun hf => ?_)
      · refine x_aload_n 67 C dX11_direct_66 hl 0 rfl rfl ?_
        refine x_aload_n 68 C dX11_direct_67 hl 0 rfl rfl ?_
        refine x_get 71 C dX11_direct_68 X kf_X11_20 0 rfl rfl rfl ?_
        refine x_iload_n 72 C dX11_direct_71 hl 2 rfl rfl ?_
        refine x_iald 73 C dX11_direct_72 X 4 rfl hf rfl (fun hf => ?_)
        refine x_i2l 74 C dX11_direct_73 rfl ?_
        refine x_aload_n 75 C dX11_direct_74 hl 0 rfl rfl ?_
        refine x_get 78 C dX11_direct_75 X kf_X11_24 0 rfl rfl rfl ?_
        refine x_iload_n 79 C dX11_direct_78 hl 2 rfl rfl ?_
        refine x_iald 80 C dX11_direct_79 X 5 rfl hf rfl (fun hf => ?_)
        refine x_i2l 81 C dX11_direct_80 rfl ?_
        obtain ⟨y81, hy81, hf⟩ := kx_bind hf
        refine x_callVv0 84 C dX11_direct_81 X hl kl_X11_273 (c_X11_laysBox E.2.1 D T h N ((m_first (v2).toNatClampNeg)).toInt64 ((m_second (v2).toNatClampNeg)).toInt64 m_taped m_states m_ra m_rb m_threes m_primes m_ones m_unit m_allParts m_allNorms m_allClasses m_odd m_boxWide m_boxHigh m_boxStep m_partingMany m_qa m_qb m_la m_lb m_sa m_sb m_ta m_tb m_listed m_tells m_wanted m_found m_bits m_power2 m_rings m_ringA m_ringB m_seedNow m_tape m_has m_keptHas m_first m_second m_keptFirst m_keptSecond m_pa m_pb m_pNorm m_cubed m_isOpen m_signs m_often m_la0 m_lb0 y81 hy81) rfl rfl [] rfl rfl rfl rfl rfl rfl (fun H locs X => ?_)
        refine x_aload_n 85 C dX11_direct_84 hl 0 rfl rfl ?_
        refine x_aload_n 86 C dX11_direct_85 hl 0 rfl rfl ?_
        refine x_get 89 C dX11_direct_86 X kf_X11_20 0 rfl rfl rfl ?_
        refine x_iload_n 90 C dX11_direct_89 hl 1 rfl rfl ?_
        refine x_iald 91 C dX11_direct_90 X 4 rfl hf rfl (fun hf => ?_)
        refine x_i2l 92 C dX11_direct_91 rfl ?_
        refine x_aload_n 93 C dX11_direct_92 hl 0 rfl rfl ?_
        refine x_get 96 C dX11_direct_93 X kf_X11_24 0 rfl rfl rfl ?_
        refine x_iload_n 97 C dX11_direct_96 hl 1 rfl rfl ?_
        refine x_iald 98 C dX11_direct_97 X 5 rfl hf rfl (fun hf => ?_)
        refine x_i2l 99 C dX11_direct_98 rfl ?_
        refine x_aload_n 100 C dX11_direct_99 hl 0 rfl rfl ?_
        refine x_get 103 C dX11_direct_100 X kf_X11_20 0 rfl rfl rfl ?_
        refine x_iload_n 104 C dX11_direct_103 hl 2 rfl rfl ?_
        refine x_iald 105 C dX11_direct_104 X 4 rfl hf rfl (fun hf => ?_)
        refine x_i2l 106 C dX11_direct_105 rfl ?_
        refine x_aload_n 107 C dX11_direct_106 hl 0 rfl rfl ?_
        refine x_get 110 C dX11_direct_107 X kf_X11_24 0 rfl rfl rfl ?_
        refine x_iload_n 111 C dX11_direct_110 hl 2 rfl rfl ?_
        refine x_iald 112 C dX11_direct_111 X 5 rfl hf rfl (fun hf => ?_)
        refine x_i2l 113 C dX11_direct_112 rfl ?_
        obtain ⟨y113, hy113, hf⟩ := kx_bind hf
        refine x_callSi 116 C dX11_direct_113 X hl kl_X11_160 (c_X11_normOf E.2.1 D T  ((m_first (v2).toNatClampNeg)).toInt64 ((m_second (v2).toNatClampNeg)).toInt64  y113 hy113) [.long ((m_second (v1).toNatClampNeg)).toInt64, .long ((m_first (v1).toNatClampNeg)).toInt64, .ref (h 0)] rfl rfl rfl rfl rfl cb_7 rfl (fun H locs X => ?_)
        refine x_iconst 117 C dX11_direct_116 (1 : Int32) kv_iconst_1 rfl ?_
        refine x_isub 118 C dX11_direct_117 rfl ?_
        refine x_iconst 119 C dX11_direct_118 (3 : Int32) kv_iconst_3 rfl ?_
        refine x_idiv0 120 C dX11_direct_119 kz_i_3 rfl ?_
        obtain ⟨y120, hy120, hf⟩ := kx_bind hf
        refine x_callVv0 123 C dX11_direct_120 X hl kl_X11_281 (c_X11_powers E.2.1 D T h N ((m_first (v1).toNatClampNeg)).toInt64 ((m_second (v1).toNatClampNeg)).toInt64 ((y113 - (1 : Int32)) / (3 : Int32)) m_taped m_states m_ra m_rb m_threes m_primes m_ones m_unit m_allParts m_allNorms m_allClasses m_odd y81.1 y81.2.1 y81.2.2 m_partingMany m_qa m_qb m_la m_lb m_sa m_sb m_ta m_tb m_listed m_tells m_wanted m_found m_bits m_power2 m_rings m_ringA m_ringB m_seedNow m_tape m_has m_keptHas m_first m_second m_keptFirst m_keptSecond m_pa m_pb m_pNorm m_cubed m_isOpen m_signs m_often m_la0 m_lb0 y120 hy120) rfl rfl [] rfl rfl rfl rfl rfl rfl (fun H locs X => ?_)
        refine x_aload_n 124 C dX11_direct_123 hl 0 rfl rfl ?_
        refine x_iload_n 125 C dX11_direct_124 hl 3 rfl rfl ?_
        obtain ⟨y125, hy125, hf⟩ := kx_bind hf
        refine x_callVi0 128 C dX11_direct_125 X hl kl_X11_276 (c_X11_part E.2.1 D T h v3 m_taped m_states y120.1 y120.2 m_threes m_primes m_ones m_unit m_allParts m_allNorms m_allClasses m_odd y81.1 y81.2.1 y81.2.2 m_partingMany m_qa m_qb m_la m_lb m_sa m_sb m_ta m_tb m_listed m_tells m_wanted m_found m_bits m_power2 m_rings m_ringA m_ringB m_seedNow m_tape m_has m_keptHas m_first m_second m_keptFirst m_keptSecond m_pa m_pb m_pNorm m_cubed m_isOpen m_signs m_often m_la0 m_lb0 y125 hy125) rfl rfl [] rfl rfl rfl rfl rfl rfl (fun H locs X => ?_)
        obtain rfl := Option.some.inj hf
        exact R _ _ _ _ X dX11_direct_128
      refine x_bipush 65 C dX11_direct_63 (-3 : Int32) kv_bipush_m3 rfl ?_
      obtain rfl := Option.some.inj hf
      exact R _ _ _ _ X dX11_direct_65
    refine x_bipush 22 C dX11_direct_20 (-2 : Int32) kv_bipush_m2 rfl ?_
    obtain rfl := Option.some.inj hf
    exact R _ _ _ _ X dX11_direct_22
  refine x_iconst 10 C dX11_direct_9 (-1 : Int32) kv_iconst_m1 rfl ?_
  obtain rfl := Option.some.inj hf
  exact R _ _ _ _ X dX11_direct_10
set_option maxHeartbeats 4000000 in
set_option maxRecDepth 100000 in
theorem w_X10_signOf_p1_one_p2_two_13 {E : KE} {A : Nat → Prop} {D : va_G} {T : KT} (h : Nat → Nat) (C : kx_C E cX10_signOf 6 (some .int) RX10 6 146 D T) (N : Nat) (x : Int32 × Int64 × Int64 × Int64 × Int64 × Int64 × Int32 × Int32 × Int32 × (Nat → Int64) × (Nat → Int64) × (Nat → Int64) × Int32 × Int64 × Int64 × Int64 × Int64 × Int64 × Int64 × Int64 × Int64 × Int64 × Int64 × Int64 × Int64 × Int64 × Int64 × (Nat → Int64) × (Nat → Int64) × Int64 × Int64 × Int64 × Int64 × Int64 × Int64 × Int64 × Int64 × Int64 × Int64 × Int64 × Int64) (m_drawers_full m_drawers_kept : Int32) (m_drawers_partA m_drawers_partB m_drawers_keptA m_drawers_keptB m_drawers_keptFull : Nat → Int32) (m_tape_size m_tape_plain m_tape_omegas m_tape_end m_tape_place m_tape_plainTold m_tape_omegasTold : Int32) (m_tape_bytes : Nat → Int32) (m_euclid_count : Int32) (m_euclid_last_a m_euclid_last_b m_euclid_lastOfFirst_a m_euclid_lastOfFirst_b m_euclid_lastOfSecond_a m_euclid_lastOfSecond_b m_euclid_next_a m_euclid_next_b m_euclid_nextOfFirst_a m_euclid_nextOfFirst_b m_euclid_nextOfSecond_a m_euclid_nextOfSecond_b m_euclid_q_a m_euclid_q_b : Int64) (m_euclid_quotientA m_euclid_quotientB : Nat → Int64) (m_primes_count : Int32) (m_primes_primeA m_primes_primeB : Nat → Int32) (m_primes_found_a m_primes_found_b : Int64) (m_rings_foundA m_rings_foundB m_rings_all m_rings_mostOfOneRow m_letters_count : Int32) (m_letters_bytes : Nat → Int32) (m_one_a m_one_b m_two_a m_two_b m_three_a m_three_b : Int64) (m_marks : Nat → Int32) (R : kx_RI E cX10_signOf D A (wC T h m_drawers_full m_drawers_kept m_drawers_partA m_drawers_partB m_drawers_keptA m_drawers_keptB m_drawers_keptFull m_tape_size m_tape_plain m_tape_omegas m_tape_end m_tape_place m_tape_plainTold m_tape_omegasTold m_tape_bytes m_euclid_count m_euclid_last_a m_euclid_last_b m_euclid_lastOfFirst_a m_euclid_lastOfFirst_b m_euclid_lastOfSecond_a m_euclid_lastOfSecond_b m_euclid_next_a m_euclid_next_b m_euclid_nextOfFirst_a m_euclid_nextOfFirst_b m_euclid_nextOfSecond_a m_euclid_nextOfSecond_b m_euclid_q_a m_euclid_q_b m_euclid_quotientA m_euclid_quotientB x.2.1 x.2.2.1 x.2.2.2.1 x.2.2.2.2.1 x.2.2.2.2.2.1 x.2.2.2.2.2.2.1 x.2.2.2.2.2.2.2.1 x.2.2.2.2.2.2.2.2.1 x.2.2.2.2.2.2.2.2.2.1 x.2.2.2.2.2.2.2.2.2.2.1 x.2.2.2.2.2.2.2.2.2.2.2.1 x.2.2.2.2.2.2.2.2.2.2.2.2.1 x.2.2.2.2.2.2.2.2.2.2.2.2.2.1 x.2.2.2.2.2.2.2.2.2.2.2.2.2.2.1 x.2.2.2.2.2.2.2.2.2.2.2.2.2.2.2.1 x.2.2.2.2.2.2.2.2.2.2.2.2.2.2.2.2.1 x.2.2.2.2.2.2.2.2.2.2.2.2.2.2.2.2.2.1 x.2.2.2.2.2.2.2.2.2.2.2.2.2.2.2.2.2.2.1 x.2.2.2.2.2.2.2.2.2.2.2.2.2.2.2.2.2.2.2.1 x.2.2.2.2.2.2.2.2.2.2.2.2.2.2.2.2.2.2.2.2.1 x.2.2.2.2.2.2.2.2.2.2.2.2.2.2.2.2.2.2.2.2.2.1 x.2.2.2.2.2.2.2.2.2.2.2.2.2.2.2.2.2.2.2.2.2.2.1 x.2.2.2.2.2.2.2.2.2.2.2.2.2.2.2.2.2.2.2.2.2.2.2.1 x.2.2.2.2.2.2.2.2.2.2.2.2.2.2.2.2.2.2.2.2.2.2.2.2.1 x.2.2.2.2.2.2.2.2.2.2.2.2.2.2.2.2.2.2.2.2.2.2.2.2.2.1 x.2.2.2.2.2.2.2.2.2.2.2.2.2.2.2.2.2.2.2.2.2.2.2.2.2.2.1 x.2.2.2.2.2.2.2.2.2.2.2.2.2.2.2.2.2.2.2.2.2.2.2.2.2.2.2.1 x.2.2.2.2.2.2.2.2.2.2.2.2.2.2.2.2.2.2.2.2.2.2.2.2.2.2.2.2.1 x.2.2.2.2.2.2.2.2.2.2.2.2.2.2.2.2.2.2.2.2.2.2.2.2.2.2.2.2.2.1 x.2.2.2.2.2.2.2.2.2.2.2.2.2.2.2.2.2.2.2.2.2.2.2.2.2.2.2.2.2.2.1 x.2.2.2.2.2.2.2.2.2.2.2.2.2.2.2.2.2.2.2.2.2.2.2.2.2.2.2.2.2.2.2.1 x.2.2.2.2.2.2.2.2.2.2.2.2.2.2.2.2.2.2.2.2.2.2.2.2.2.2.2.2.2.2.2.2.1 x.2.2.2.2.2.2.2.2.2.2.2.2.2.2.2.2.2.2.2.2.2.2.2.2.2.2.2.2.2.2.2.2.2.1 x.2.2.2.2.2.2.2.2.2.2.2.2.2.2.2.2.2.2.2.2.2.2.2.2.2.2.2.2.2.2.2.2.2.2.1 m_primes_count m_primes_primeA m_primes_primeB m_primes_found_a m_primes_found_b m_rings_foundA m_rings_foundB m_rings_all m_rings_mostOfOneRow m_letters_count m_letters_bytes m_one_a m_one_b m_two_a m_two_b m_three_a m_three_b x.2.2.2.2.2.2.2.2.2.2.2.2.2.2.2.2.2.2.2.2.2.2.2.2.2.2.2.2.2.2.2.2.2.2.2.1 x.2.2.2.2.2.2.2.2.2.2.2.2.2.2.2.2.2.2.2.2.2.2.2.2.2.2.2.2.2.2.2.2.2.2.2.2.1 x.2.2.2.2.2.2.2.2.2.2.2.2.2.2.2.2.2.2.2.2.2.2.2.2.2.2.2.2.2.2.2.2.2.2.2.2.2.1 x.2.2.2.2.2.2.2.2.2.2.2.2.2.2.2.2.2.2.2.2.2.2.2.2.2.2.2.2.2.2.2.2.2.2.2.2.2.2.1 x.2.2.2.2.2.2.2.2.2.2.2.2.2.2.2.2.2.2.2.2.2.2.2.2.2.2.2.2.2.2.2.2.2.2.2.2.2.2.2.1 x.2.2.2.2.2.2.2.2.2.2.2.2.2.2.2.2.2.2.2.2.2.2.2.2.2.2.2.2.2.2.2.2.2.2.2.2.2.2.2.2 m_marks) x.1) : ∀ (k : Nat), ∀ (m_modulus_step m_modulus_width m_modulus_slant m_modulus_square_a m_modulus_square_b : Int64) (m_factors_count m_factors_threes m_factors_unit : Int32) (m_factors_primeA m_factors_primeB m_factors_norms : Nat → Int64) (m_factors_euclid_count : Int32) (m_factors_euclid_last_a m_factors_euclid_last_b m_factors_euclid_lastOfFirst_a m_factors_euclid_lastOfFirst_b m_factors_euclid_lastOfSecond_a m_factors_euclid_lastOfSecond_b m_factors_euclid_next_a m_factors_euclid_next_b m_factors_euclid_nextOfFirst_a m_factors_euclid_nextOfFirst_b m_factors_euclid_nextOfSecond_a m_factors_euclid_nextOfSecond_b m_factors_euclid_q_a m_factors_euclid_q_b : Int64) (m_factors_euclid_quotientA m_factors_euclid_quotientB : Nat → Int64) (m_factors_left_a m_factors_left_b m_factors_found_a m_factors_found_b m_factors_product_a m_factors_product_b m_four_a m_four_b m_out_a m_out_b m_spare_a m_spare_b : Int64) (v3 v4 : Int32) (H : Heap) (locs : List Loc) (ls : Array Slot), kx_H E D A H locs (wC T h m_drawers_full m_drawers_kept m_drawers_partA m_drawers_partB m_drawers_keptA m_drawers_keptB m_drawers_keptFull m_tape_size m_tape_plain m_tape_omegas m_tape_end m_tape_place m_tape_plainTold m_tape_omegasTold m_tape_bytes m_euclid_count m_euclid_last_a m_euclid_last_b m_euclid_lastOfFirst_a m_euclid_lastOfFirst_b m_euclid_lastOfSecond_a m_euclid_lastOfSecond_b m_euclid_next_a m_euclid_next_b m_euclid_nextOfFirst_a m_euclid_nextOfFirst_b m_euclid_nextOfSecond_a m_euclid_nextOfSecond_b m_euclid_q_a m_euclid_q_b m_euclid_quotientA m_euclid_quotientB m_modulus_step m_modulus_width m_modulus_slant m_modulus_square_a m_modulus_square_b m_factors_count m_factors_threes m_factors_unit m_factors_primeA m_factors_primeB m_factors_norms m_factors_euclid_count m_factors_euclid_last_a m_factors_euclid_last_b m_factors_euclid_lastOfFirst_a m_factors_euclid_lastOfFirst_b m_factors_euclid_lastOfSecond_a m_factors_euclid_lastOfSecond_b m_factors_euclid_next_a m_factors_euclid_next_b m_factors_euclid_nextOfFirst_a m_factors_euclid_nextOfFirst_b m_factors_euclid_nextOfSecond_a m_factors_euclid_nextOfSecond_b m_factors_euclid_q_a m_factors_euclid_q_b m_factors_euclid_quotientA m_factors_euclid_quotientB m_factors_left_a m_factors_left_b m_factors_found_a m_factors_found_b m_factors_product_a m_factors_product_b m_primes_count m_primes_primeA m_primes_primeB m_primes_found_a m_primes_found_b m_rings_foundA m_rings_foundB m_rings_all m_rings_mostOfOneRow m_letters_count m_letters_bytes m_one_a m_one_b m_two_a m_two_b m_three_a m_three_b m_four_a m_four_b m_out_a m_out_b m_spare_a m_spare_b m_marks) → lv_has ls 6 [(0, .ref (h 0)), (1, .ref (h 45)), (3, .int v3), (4, .int v4)] → f_X10_signOf_13 N k v3 v4 m_modulus_step m_modulus_width m_modulus_slant m_modulus_square_a m_modulus_square_b m_factors_count m_factors_threes m_factors_unit m_factors_primeA m_factors_primeB m_factors_norms m_factors_euclid_count m_factors_euclid_last_a m_factors_euclid_last_b m_factors_euclid_lastOfFirst_a m_factors_euclid_lastOfFirst_b m_factors_euclid_lastOfSecond_a m_factors_euclid_lastOfSecond_b m_factors_euclid_next_a m_factors_euclid_next_b m_factors_euclid_nextOfFirst_a m_factors_euclid_nextOfFirst_b m_factors_euclid_nextOfSecond_a m_factors_euclid_nextOfSecond_b m_factors_euclid_q_a m_factors_euclid_q_b m_factors_euclid_quotientA m_factors_euclid_quotientB m_factors_left_a m_factors_left_b m_factors_found_a m_factors_found_b m_factors_product_a m_factors_product_b m_four_a m_four_b m_out_a m_out_b m_spare_a m_spare_b m_one_a m_one_b = some x → kx_W E H locs 13 ls [] := by
  intro k
  induction k with
  | zero =>
    intro m_modulus_step m_modulus_width m_modulus_slant m_modulus_square_a m_modulus_square_b m_factors_count m_factors_threes m_factors_unit m_factors_primeA m_factors_primeB m_factors_norms m_factors_euclid_count m_factors_euclid_last_a m_factors_euclid_last_b m_factors_euclid_lastOfFirst_a m_factors_euclid_lastOfFirst_b m_factors_euclid_lastOfSecond_a m_factors_euclid_lastOfSecond_b m_factors_euclid_next_a m_factors_euclid_next_b m_factors_euclid_nextOfFirst_a m_factors_euclid_nextOfFirst_b m_factors_euclid_nextOfSecond_a m_factors_euclid_nextOfSecond_b m_factors_euclid_q_a m_factors_euclid_q_b m_factors_euclid_quotientA m_factors_euclid_quotientB m_factors_left_a m_factors_left_b m_factors_found_a m_factors_found_b m_factors_product_a m_factors_product_b m_four_a m_four_b m_out_a m_out_b m_spare_a m_spare_b v3 v4 H locs ls X hl hf
    cases (show (none : Option (Int32 × Int64 × Int64 × Int64 × Int64 × Int64 × Int32 × Int32 × Int32 × (Nat → Int64) × (Nat → Int64) × (Nat → Int64) × Int32 × Int64 × Int64 × Int64 × Int64 × Int64 × Int64 × Int64 × Int64 × Int64 × Int64 × Int64 × Int64 × Int64 × Int64 × (Nat → Int64) × (Nat → Int64) × Int64 × Int64 × Int64 × Int64 × Int64 × Int64 × Int64 × Int64 × Int64 × Int64 × Int64 × Int64)) = some x from hf)
  | succ k ih =>
    intro m_modulus_step m_modulus_width m_modulus_slant m_modulus_square_a m_modulus_square_b m_factors_count m_factors_threes m_factors_unit m_factors_primeA m_factors_primeB m_factors_norms m_factors_euclid_count m_factors_euclid_last_a m_factors_euclid_last_b m_factors_euclid_lastOfFirst_a m_factors_euclid_lastOfFirst_b m_factors_euclid_lastOfSecond_a m_factors_euclid_lastOfSecond_b m_factors_euclid_next_a m_factors_euclid_next_b m_factors_euclid_nextOfFirst_a m_factors_euclid_nextOfFirst_b m_factors_euclid_nextOfSecond_a m_factors_euclid_nextOfSecond_b m_factors_euclid_q_a m_factors_euclid_q_b m_factors_euclid_quotientA m_factors_euclid_quotientB m_factors_left_a m_factors_left_b m_factors_found_a m_factors_found_b m_factors_product_a m_factors_product_b m_four_a m_four_b m_out_a m_out_b m_spare_a m_spare_b v3 v4 H locs ls X hl hf
    rw [f_X10_signOf_13] at hf
    refine x_iload 15 C dX10_signOf_13 hl 3 rfl rfl ?_
    refine x_aload_n 16 C dX10_signOf_15 hl 0 rfl rfl ?_
    refine x_get 19 C dX10_signOf_16 X kf_X10_42 0 rfl rfl rfl ?_
    refine x_get 22 C dX10_signOf_19 X kf_X10_231 21 rfl rfl rfl ?_
    refine x_icmp_ge 68 25 C dX10_signOf_22 rfl rfl hf (fun hf => ?_) (fun hf => ?_)
    · refine x_iload_n 69 C dX10_signOf_68 hl 2 rfl rfl ?_
      refine x_iconst 70 C dX10_signOf_69 (3 : Int32) kv_iconst_3 rfl ?_
      refine x_irem0 71 C dX10_signOf_70 kz_i_3 rfl ?_
      obtain rfl := Option.some.inj hf
      exact R _ _ _ _ X dX10_signOf_71
    refine x_aload_n 26 C dX10_signOf_25 hl 0 rfl rfl ?_
    refine x_get 29 C dX10_signOf_26 X kf_X10_42 0 rfl rfl rfl ?_
    refine x_iload 31 C dX10_signOf_29 hl 3 rfl rfl ?_
    refine x_aload_n 32 C dX10_signOf_31 hl 0 rfl rfl ?_
    refine x_get 35 C dX10_signOf_32 X kf_X10_86 0 rfl rfl rfl ?_
    obtain ⟨y35, hy35, hf⟩ := kx_bind hf
    refine x_callVv 38 C dX10_signOf_35 X hl kl_X10_240 (c_X2_load E.2.1 D T (h 21) (h 22) (h 23) (h 24) (h 25) (h 35) (h 36) (h 37) (h 50) v4 m_factors_count m_factors_threes m_factors_unit m_factors_primeA m_factors_primeB m_spare_a m_spare_b y35 hy35) rfl rfl [] rfl rfl rfl rfl rfl cb_84 rfl (fun H locs X => ?_)
    refine x_aload_n 39 C dX10_signOf_38 hl 0 rfl rfl ?_
    refine x_aload_n 40 C dX10_signOf_39 hl 1 rfl rfl ?_
    refine x_aload_n 41 C dX10_signOf_40 hl 0 rfl rfl ?_
    refine x_get 44 C dX10_signOf_41 X kf_X10_86 0 rfl rfl rfl ?_
    obtain ⟨y44, hy44, hf⟩ := kx_bind hf
    refine x_callVi0 47 C dX10_signOf_44 X hl kl_X10_262 (c_X10_signByPrime_p1_one_p2_spare E.2.1 D T h N  m_drawers_full m_drawers_kept m_drawers_partA m_drawers_partB m_drawers_keptA m_drawers_keptB m_drawers_keptFull m_tape_size m_tape_plain m_tape_omegas m_tape_end m_tape_place m_tape_plainTold m_tape_omegasTold m_tape_bytes m_euclid_count m_euclid_last_a m_euclid_last_b m_euclid_lastOfFirst_a m_euclid_lastOfFirst_b m_euclid_lastOfSecond_a m_euclid_lastOfSecond_b m_euclid_next_a m_euclid_next_b m_euclid_nextOfFirst_a m_euclid_nextOfFirst_b m_euclid_nextOfSecond_a m_euclid_nextOfSecond_b m_euclid_q_a m_euclid_q_b m_euclid_quotientA m_euclid_quotientB m_modulus_step m_modulus_width m_modulus_slant m_modulus_square_a m_modulus_square_b m_factors_count m_factors_threes m_factors_unit m_factors_primeA m_factors_primeB m_factors_norms m_factors_euclid_count m_factors_euclid_last_a m_factors_euclid_last_b m_factors_euclid_lastOfFirst_a m_factors_euclid_lastOfFirst_b m_factors_euclid_lastOfSecond_a m_factors_euclid_lastOfSecond_b m_factors_euclid_next_a m_factors_euclid_next_b m_factors_euclid_nextOfFirst_a m_factors_euclid_nextOfFirst_b m_factors_euclid_nextOfSecond_a m_factors_euclid_nextOfSecond_b m_factors_euclid_q_a m_factors_euclid_q_b m_factors_euclid_quotientA m_factors_euclid_quotientB m_factors_left_a m_factors_left_b m_factors_found_a m_factors_found_b m_factors_product_a m_factors_product_b m_primes_count m_primes_primeA m_primes_primeB m_primes_found_a m_primes_found_b m_rings_foundA m_rings_foundB m_rings_all m_rings_mostOfOneRow m_letters_count m_letters_bytes m_one_a m_one_b m_two_a m_two_b m_three_a m_three_b m_four_a m_four_b m_out_a m_out_b y35.1 y35.2 m_marks y44 hy44) rfl rfl [] rfl rfl rfl rfl rfl rfl (fun H locs X => ?_)
    refine x_istore 49 C dX10_signOf_47 [(5, .int y44.1), (0, .ref (h 0)), (1, .ref (h 45)), (3, .int v3), (4, .int v4)] hl rfl rfl rfl (fun ls hl => ?_)
    refine x_iload 51 C dX10_signOf_49 hl 0 rfl rfl ?_
    refine x_iconst 52 C dX10_signOf_51 (3 : Int32) kv_iconst_3 rfl ?_
    refine x_icmp_ne 57 55 C dX10_signOf_52 rfl rfl hf (fun hf => ?_) (fun hf => ?_)
    · refine x_iload_n 58 C dX10_signOf_57 hl 3 rfl rfl ?_
      refine x_iload 60 C dX10_signOf_58 hl 0 rfl rfl ?_
      refine x_iadd 61 C dX10_signOf_60 rfl ?_
      refine x_istore_n 62 C dX10_signOf_61 [(3, .int (v3 + y44.1)), (5, .int y44.1), (0, .ref (h 0)), (1, .ref (h 45)), (4, .int v4)] hl rfl rfl rfl (fun ls hl => ?_)
      refine x_iinc 65 C dX10_signOf_62 (1 : Int32) kv_iconst_1 [(4, .int (v4 + (1 : Int32))), (3, .int (v3 + y44.1)), (5, .int y44.1), (0, .ref (h 0)), (1, .ref (h 45))] hl 4 rfl rfl rfl rfl (fun ls hl => ?_)
      refine x_goto 13 C dX10_signOf_65 rfl ?_
      exact ih y44.2.1 y44.2.2.1 y44.2.2.2.1 y44.2.2.2.2.1 y44.2.2.2.2.2.1 m_factors_count m_factors_threes m_factors_unit m_factors_primeA m_factors_primeB m_factors_norms m_factors_euclid_count m_factors_euclid_last_a m_factors_euclid_last_b m_factors_euclid_lastOfFirst_a m_factors_euclid_lastOfFirst_b m_factors_euclid_lastOfSecond_a m_factors_euclid_lastOfSecond_b m_factors_euclid_next_a m_factors_euclid_next_b m_factors_euclid_nextOfFirst_a m_factors_euclid_nextOfFirst_b m_factors_euclid_nextOfSecond_a m_factors_euclid_nextOfSecond_b m_factors_euclid_q_a m_factors_euclid_q_b m_factors_euclid_quotientA m_factors_euclid_quotientB m_factors_left_a m_factors_left_b m_factors_found_a m_factors_found_b m_factors_product_a m_factors_product_b y44.2.2.2.2.2.2.1 y44.2.2.2.2.2.2.2.1 y44.2.2.2.2.2.2.2.2.1 y44.2.2.2.2.2.2.2.2.2 y35.1 y35.2 (v3 + y44.1) (v4 + (1 : Int32)) _ _ _ X (lv_sub hl [3, 4, 1, 0] rfl) hf
    refine x_iconst 56 C dX10_signOf_55 (3 : Int32) kv_iconst_3 rfl ?_
    obtain rfl := Option.some.inj hf
    exact R _ _ _ _ X dX10_signOf_56
set_option maxHeartbeats 4000000 in
set_option maxRecDepth 100000 in
theorem c_X10_signOf_p1_one_p2_two (l : Launch) (D : va_G) (T : KT) (h : Nat → Nat) (N : Nat)  (m_drawers_full m_drawers_kept : Int32) (m_drawers_partA m_drawers_partB m_drawers_keptA m_drawers_keptB m_drawers_keptFull : Nat → Int32) (m_tape_size m_tape_plain m_tape_omegas m_tape_end m_tape_place m_tape_plainTold m_tape_omegasTold : Int32) (m_tape_bytes : Nat → Int32) (m_euclid_count : Int32) (m_euclid_last_a m_euclid_last_b m_euclid_lastOfFirst_a m_euclid_lastOfFirst_b m_euclid_lastOfSecond_a m_euclid_lastOfSecond_b m_euclid_next_a m_euclid_next_b m_euclid_nextOfFirst_a m_euclid_nextOfFirst_b m_euclid_nextOfSecond_a m_euclid_nextOfSecond_b m_euclid_q_a m_euclid_q_b : Int64) (m_euclid_quotientA m_euclid_quotientB : Nat → Int64) (m_modulus_step m_modulus_width m_modulus_slant m_modulus_square_a m_modulus_square_b : Int64) (m_factors_count m_factors_threes m_factors_unit : Int32) (m_factors_primeA m_factors_primeB m_factors_norms : Nat → Int64) (m_factors_euclid_count : Int32) (m_factors_euclid_last_a m_factors_euclid_last_b m_factors_euclid_lastOfFirst_a m_factors_euclid_lastOfFirst_b m_factors_euclid_lastOfSecond_a m_factors_euclid_lastOfSecond_b m_factors_euclid_next_a m_factors_euclid_next_b m_factors_euclid_nextOfFirst_a m_factors_euclid_nextOfFirst_b m_factors_euclid_nextOfSecond_a m_factors_euclid_nextOfSecond_b m_factors_euclid_q_a m_factors_euclid_q_b : Int64) (m_factors_euclid_quotientA m_factors_euclid_quotientB : Nat → Int64) (m_factors_left_a m_factors_left_b m_factors_found_a m_factors_found_b m_factors_product_a m_factors_product_b : Int64) (m_primes_count : Int32) (m_primes_primeA m_primes_primeB : Nat → Int32) (m_primes_found_a m_primes_found_b : Int64) (m_rings_foundA m_rings_foundB m_rings_all m_rings_mostOfOneRow m_letters_count : Int32) (m_letters_bytes : Nat → Int32) (m_one_a m_one_b m_two_a m_two_b m_three_a m_three_b m_four_a m_four_b m_out_a m_out_b m_spare_a m_spare_b : Int64) (m_marks : Nat → Int32) (x : Int32 × Int64 × Int64 × Int64 × Int64 × Int64 × Int32 × Int32 × Int32 × (Nat → Int64) × (Nat → Int64) × (Nat → Int64) × Int32 × Int64 × Int64 × Int64 × Int64 × Int64 × Int64 × Int64 × Int64 × Int64 × Int64 × Int64 × Int64 × Int64 × Int64 × (Nat → Int64) × (Nat → Int64) × Int64 × Int64 × Int64 × Int64 × Int64 × Int64 × Int64 × Int64 × Int64 × Int64 × Int64 × Int64) (hf : f_X10_signOf N m_modulus_step m_modulus_width m_modulus_slant m_modulus_square_a m_modulus_square_b m_factors_primeA m_factors_primeB m_factors_norms m_factors_euclid_count m_factors_euclid_last_a m_factors_euclid_last_b m_factors_euclid_lastOfFirst_a m_factors_euclid_lastOfFirst_b m_factors_euclid_lastOfSecond_a m_factors_euclid_lastOfSecond_b m_factors_euclid_next_a m_factors_euclid_next_b m_factors_euclid_nextOfFirst_a m_factors_euclid_nextOfFirst_b m_factors_euclid_nextOfSecond_a m_factors_euclid_nextOfSecond_b m_factors_euclid_q_a m_factors_euclid_q_b m_factors_euclid_quotientA m_factors_euclid_quotientB m_factors_found_a m_factors_found_b m_factors_product_a m_factors_product_b m_four_a m_four_b m_out_a m_out_b m_spare_a m_spare_b m_one_a m_one_b m_two_a m_two_b = some x) : kx_MI l yX10_signOf cX10_signOf 6 (some .int) 6 146 D T [.ref (h 0), .ref (h 45), .ref (h 46)] (wC T h m_drawers_full m_drawers_kept m_drawers_partA m_drawers_partB m_drawers_keptA m_drawers_keptB m_drawers_keptFull m_tape_size m_tape_plain m_tape_omegas m_tape_end m_tape_place m_tape_plainTold m_tape_omegasTold m_tape_bytes m_euclid_count m_euclid_last_a m_euclid_last_b m_euclid_lastOfFirst_a m_euclid_lastOfFirst_b m_euclid_lastOfSecond_a m_euclid_lastOfSecond_b m_euclid_next_a m_euclid_next_b m_euclid_nextOfFirst_a m_euclid_nextOfFirst_b m_euclid_nextOfSecond_a m_euclid_nextOfSecond_b m_euclid_q_a m_euclid_q_b m_euclid_quotientA m_euclid_quotientB m_modulus_step m_modulus_width m_modulus_slant m_modulus_square_a m_modulus_square_b m_factors_count m_factors_threes m_factors_unit m_factors_primeA m_factors_primeB m_factors_norms m_factors_euclid_count m_factors_euclid_last_a m_factors_euclid_last_b m_factors_euclid_lastOfFirst_a m_factors_euclid_lastOfFirst_b m_factors_euclid_lastOfSecond_a m_factors_euclid_lastOfSecond_b m_factors_euclid_next_a m_factors_euclid_next_b m_factors_euclid_nextOfFirst_a m_factors_euclid_nextOfFirst_b m_factors_euclid_nextOfSecond_a m_factors_euclid_nextOfSecond_b m_factors_euclid_q_a m_factors_euclid_q_b m_factors_euclid_quotientA m_factors_euclid_quotientB m_factors_left_a m_factors_left_b m_factors_found_a m_factors_found_b m_factors_product_a m_factors_product_b m_primes_count m_primes_primeA m_primes_primeB m_primes_found_a m_primes_found_b m_rings_foundA m_rings_foundB m_rings_all m_rings_mostOfOneRow m_letters_count m_letters_bytes m_one_a m_one_b m_two_a m_two_b m_three_a m_three_b m_four_a m_four_b m_out_a m_out_b m_spare_a m_spare_b m_marks) (wC T h m_drawers_full m_drawers_kept m_drawers_partA m_drawers_partB m_drawers_keptA m_drawers_keptB m_drawers_keptFull m_tape_size m_tape_plain m_tape_omegas m_tape_end m_tape_place m_tape_plainTold m_tape_omegasTold m_tape_bytes m_euclid_count m_euclid_last_a m_euclid_last_b m_euclid_lastOfFirst_a m_euclid_lastOfFirst_b m_euclid_lastOfSecond_a m_euclid_lastOfSecond_b m_euclid_next_a m_euclid_next_b m_euclid_nextOfFirst_a m_euclid_nextOfFirst_b m_euclid_nextOfSecond_a m_euclid_nextOfSecond_b m_euclid_q_a m_euclid_q_b m_euclid_quotientA m_euclid_quotientB x.2.1 x.2.2.1 x.2.2.2.1 x.2.2.2.2.1 x.2.2.2.2.2.1 x.2.2.2.2.2.2.1 x.2.2.2.2.2.2.2.1 x.2.2.2.2.2.2.2.2.1 x.2.2.2.2.2.2.2.2.2.1 x.2.2.2.2.2.2.2.2.2.2.1 x.2.2.2.2.2.2.2.2.2.2.2.1 x.2.2.2.2.2.2.2.2.2.2.2.2.1 x.2.2.2.2.2.2.2.2.2.2.2.2.2.1 x.2.2.2.2.2.2.2.2.2.2.2.2.2.2.1 x.2.2.2.2.2.2.2.2.2.2.2.2.2.2.2.1 x.2.2.2.2.2.2.2.2.2.2.2.2.2.2.2.2.1 x.2.2.2.2.2.2.2.2.2.2.2.2.2.2.2.2.2.1 x.2.2.2.2.2.2.2.2.2.2.2.2.2.2.2.2.2.2.1 x.2.2.2.2.2.2.2.2.2.2.2.2.2.2.2.2.2.2.2.1 x.2.2.2.2.2.2.2.2.2.2.2.2.2.2.2.2.2.2.2.2.1 x.2.2.2.2.2.2.2.2.2.2.2.2.2.2.2.2.2.2.2.2.2.1 x.2.2.2.2.2.2.2.2.2.2.2.2.2.2.2.2.2.2.2.2.2.2.1 x.2.2.2.2.2.2.2.2.2.2.2.2.2.2.2.2.2.2.2.2.2.2.2.1 x.2.2.2.2.2.2.2.2.2.2.2.2.2.2.2.2.2.2.2.2.2.2.2.2.1 x.2.2.2.2.2.2.2.2.2.2.2.2.2.2.2.2.2.2.2.2.2.2.2.2.2.1 x.2.2.2.2.2.2.2.2.2.2.2.2.2.2.2.2.2.2.2.2.2.2.2.2.2.2.1 x.2.2.2.2.2.2.2.2.2.2.2.2.2.2.2.2.2.2.2.2.2.2.2.2.2.2.2.1 x.2.2.2.2.2.2.2.2.2.2.2.2.2.2.2.2.2.2.2.2.2.2.2.2.2.2.2.2.1 x.2.2.2.2.2.2.2.2.2.2.2.2.2.2.2.2.2.2.2.2.2.2.2.2.2.2.2.2.2.1 x.2.2.2.2.2.2.2.2.2.2.2.2.2.2.2.2.2.2.2.2.2.2.2.2.2.2.2.2.2.2.1 x.2.2.2.2.2.2.2.2.2.2.2.2.2.2.2.2.2.2.2.2.2.2.2.2.2.2.2.2.2.2.2.1 x.2.2.2.2.2.2.2.2.2.2.2.2.2.2.2.2.2.2.2.2.2.2.2.2.2.2.2.2.2.2.2.2.1 x.2.2.2.2.2.2.2.2.2.2.2.2.2.2.2.2.2.2.2.2.2.2.2.2.2.2.2.2.2.2.2.2.2.1 x.2.2.2.2.2.2.2.2.2.2.2.2.2.2.2.2.2.2.2.2.2.2.2.2.2.2.2.2.2.2.2.2.2.2.1 m_primes_count m_primes_primeA m_primes_primeB m_primes_found_a m_primes_found_b m_rings_foundA m_rings_foundB m_rings_all m_rings_mostOfOneRow m_letters_count m_letters_bytes m_one_a m_one_b m_two_a m_two_b m_three_a m_three_b x.2.2.2.2.2.2.2.2.2.2.2.2.2.2.2.2.2.2.2.2.2.2.2.2.2.2.2.2.2.2.2.2.2.2.2.1 x.2.2.2.2.2.2.2.2.2.2.2.2.2.2.2.2.2.2.2.2.2.2.2.2.2.2.2.2.2.2.2.2.2.2.2.2.1 x.2.2.2.2.2.2.2.2.2.2.2.2.2.2.2.2.2.2.2.2.2.2.2.2.2.2.2.2.2.2.2.2.2.2.2.2.2.1 x.2.2.2.2.2.2.2.2.2.2.2.2.2.2.2.2.2.2.2.2.2.2.2.2.2.2.2.2.2.2.2.2.2.2.2.2.2.2.1 x.2.2.2.2.2.2.2.2.2.2.2.2.2.2.2.2.2.2.2.2.2.2.2.2.2.2.2.2.2.2.2.2.2.2.2.2.2.2.2.1 x.2.2.2.2.2.2.2.2.2.2.2.2.2.2.2.2.2.2.2.2.2.2.2.2.2.2.2.2.2.2.2.2.2.2.2.2.2.2.2.2 m_marks) x.1 := by
  refine kx_ofMI RX10 rfl (plainFor_of_name (x := yX10_signOf) kpn_X10) rfl ?_
  intro E A H ls _ C X R hl
  have hl : lv_has ls 6 [(0, .ref (h 0)), (1, .ref (h 45)), (2, .ref (h 46))] := hl
  rw [f_X10_signOf] at hf
  refine x_aload_n 1 C dX10_signOf_0 hl 0 rfl rfl ?_
  refine x_get 4 C dX10_signOf_1 X kf_X10_42 0 rfl rfl rfl ?_
  refine x_aload_n 5 C dX10_signOf_4 hl 2 rfl rfl ?_
  obtain ⟨y5, hy5, hf⟩ := kx_bind hf
  refine x_callVv 8 C dX10_signOf_5 X hl kl_X10_228 (c_X2_spell E.2.1 D T (h 21) (h 22) (h 23) (h 24) (h 25) (h 26) (h 27) (h 28) (h 29) (h 30) (h 31) (h 32) (h 33) (h 34) (h 35) (h 36) (h 37) (h 46) N  m_factors_count m_factors_threes m_factors_unit m_factors_primeA m_factors_primeB m_factors_norms m_factors_euclid_count m_factors_euclid_last_a m_factors_euclid_last_b m_factors_euclid_lastOfFirst_a m_factors_euclid_lastOfFirst_b m_factors_euclid_lastOfSecond_a m_factors_euclid_lastOfSecond_b m_factors_euclid_next_a m_factors_euclid_next_b m_factors_euclid_nextOfFirst_a m_factors_euclid_nextOfFirst_b m_factors_euclid_nextOfSecond_a m_factors_euclid_nextOfSecond_b m_factors_euclid_q_a m_factors_euclid_q_b m_factors_euclid_quotientA m_factors_euclid_quotientB m_factors_left_a m_factors_left_b m_factors_found_a m_factors_found_b m_factors_product_a m_factors_product_b m_two_a m_two_b y5 hy5) rfl rfl [] rfl rfl rfl rfl rfl cb_83 rfl (fun H locs X => ?_)
  refine x_iconst 9 C dX10_signOf_8 (0 : Int32) kv_iconst_0 rfl ?_
  refine x_istore_n 10 C dX10_signOf_9 [(3, .int (0 : Int32)), (0, .ref (h 0)), (1, .ref (h 45)), (2, .ref (h 46))] hl rfl rfl rfl (fun ls hl => ?_)
  refine x_iconst 11 C dX10_signOf_10 (0 : Int32) kv_iconst_0 rfl ?_
  refine x_istore 13 C dX10_signOf_11 [(4, .int (0 : Int32)), (3, .int (0 : Int32)), (0, .ref (h 0)), (1, .ref (h 45)), (2, .ref (h 46))] hl rfl rfl rfl (fun ls hl => ?_)
  exact w_X10_signOf_p1_one_p2_two_13 h C N x m_drawers_full m_drawers_kept m_drawers_partA m_drawers_partB m_drawers_keptA m_drawers_keptB m_drawers_keptFull m_tape_size m_tape_plain m_tape_omegas m_tape_end m_tape_place m_tape_plainTold m_tape_omegasTold m_tape_bytes m_euclid_count m_euclid_last_a m_euclid_last_b m_euclid_lastOfFirst_a m_euclid_lastOfFirst_b m_euclid_lastOfSecond_a m_euclid_lastOfSecond_b m_euclid_next_a m_euclid_next_b m_euclid_nextOfFirst_a m_euclid_nextOfFirst_b m_euclid_nextOfSecond_a m_euclid_nextOfSecond_b m_euclid_q_a m_euclid_q_b m_euclid_quotientA m_euclid_quotientB m_primes_count m_primes_primeA m_primes_primeB m_primes_found_a m_primes_found_b m_rings_foundA m_rings_foundB m_rings_all m_rings_mostOfOneRow m_letters_count m_letters_bytes m_one_a m_one_b m_two_a m_two_b m_three_a m_three_b m_marks R  N m_modulus_step m_modulus_width m_modulus_slant m_modulus_square_a m_modulus_square_b y5.1 y5.2.1 y5.2.2.1 y5.2.2.2.1 y5.2.2.2.2.1 y5.2.2.2.2.2.1 y5.2.2.2.2.2.2.1 y5.2.2.2.2.2.2.2.1 y5.2.2.2.2.2.2.2.2.1 y5.2.2.2.2.2.2.2.2.2.1 y5.2.2.2.2.2.2.2.2.2.2.1 y5.2.2.2.2.2.2.2.2.2.2.2.1 y5.2.2.2.2.2.2.2.2.2.2.2.2.1 y5.2.2.2.2.2.2.2.2.2.2.2.2.2.1 y5.2.2.2.2.2.2.2.2.2.2.2.2.2.2.1 y5.2.2.2.2.2.2.2.2.2.2.2.2.2.2.2.1 y5.2.2.2.2.2.2.2.2.2.2.2.2.2.2.2.2.1 y5.2.2.2.2.2.2.2.2.2.2.2.2.2.2.2.2.2.1 y5.2.2.2.2.2.2.2.2.2.2.2.2.2.2.2.2.2.2.1 y5.2.2.2.2.2.2.2.2.2.2.2.2.2.2.2.2.2.2.2.1 y5.2.2.2.2.2.2.2.2.2.2.2.2.2.2.2.2.2.2.2.2.1 y5.2.2.2.2.2.2.2.2.2.2.2.2.2.2.2.2.2.2.2.2.2.1 y5.2.2.2.2.2.2.2.2.2.2.2.2.2.2.2.2.2.2.2.2.2.2.1 y5.2.2.2.2.2.2.2.2.2.2.2.2.2.2.2.2.2.2.2.2.2.2.2.1 y5.2.2.2.2.2.2.2.2.2.2.2.2.2.2.2.2.2.2.2.2.2.2.2.2.1 y5.2.2.2.2.2.2.2.2.2.2.2.2.2.2.2.2.2.2.2.2.2.2.2.2.2.1 y5.2.2.2.2.2.2.2.2.2.2.2.2.2.2.2.2.2.2.2.2.2.2.2.2.2.2.1 y5.2.2.2.2.2.2.2.2.2.2.2.2.2.2.2.2.2.2.2.2.2.2.2.2.2.2.2.1 y5.2.2.2.2.2.2.2.2.2.2.2.2.2.2.2.2.2.2.2.2.2.2.2.2.2.2.2.2 m_four_a m_four_b m_out_a m_out_b m_spare_a m_spare_b (0 : Int32) (0 : Int32) _ _ _ X (lv_sub hl [2, 3, 1, 0] rfl) hf
set_option maxHeartbeats 4000000 in
set_option maxRecDepth 100000 in
theorem c_X10_sign (l : Launch) (D : va_G) (T : KT) (h : Nat → Nat) (N : Nat) (v1 v2 : Int32) (m_drawers_full m_drawers_kept : Int32) (m_drawers_partA m_drawers_partB m_drawers_keptA m_drawers_keptB m_drawers_keptFull : Nat → Int32) (m_tape_size m_tape_plain m_tape_omegas m_tape_end m_tape_place m_tape_plainTold m_tape_omegasTold : Int32) (m_tape_bytes : Nat → Int32) (m_euclid_count : Int32) (m_euclid_last_a m_euclid_last_b m_euclid_lastOfFirst_a m_euclid_lastOfFirst_b m_euclid_lastOfSecond_a m_euclid_lastOfSecond_b m_euclid_next_a m_euclid_next_b m_euclid_nextOfFirst_a m_euclid_nextOfFirst_b m_euclid_nextOfSecond_a m_euclid_nextOfSecond_b m_euclid_q_a m_euclid_q_b : Int64) (m_euclid_quotientA m_euclid_quotientB : Nat → Int64) (m_modulus_step m_modulus_width m_modulus_slant m_modulus_square_a m_modulus_square_b : Int64) (m_factors_count m_factors_threes m_factors_unit : Int32) (m_factors_primeA m_factors_primeB m_factors_norms : Nat → Int64) (m_factors_euclid_count : Int32) (m_factors_euclid_last_a m_factors_euclid_last_b m_factors_euclid_lastOfFirst_a m_factors_euclid_lastOfFirst_b m_factors_euclid_lastOfSecond_a m_factors_euclid_lastOfSecond_b m_factors_euclid_next_a m_factors_euclid_next_b m_factors_euclid_nextOfFirst_a m_factors_euclid_nextOfFirst_b m_factors_euclid_nextOfSecond_a m_factors_euclid_nextOfSecond_b m_factors_euclid_q_a m_factors_euclid_q_b : Int64) (m_factors_euclid_quotientA m_factors_euclid_quotientB : Nat → Int64) (m_factors_left_a m_factors_left_b m_factors_found_a m_factors_found_b m_factors_product_a m_factors_product_b : Int64) (m_primes_count : Int32) (m_primes_primeA m_primes_primeB : Nat → Int32) (m_primes_found_a m_primes_found_b : Int64) (m_rings_foundA m_rings_foundB m_rings_all m_rings_mostOfOneRow m_letters_count : Int32) (m_letters_bytes : Nat → Int32) (m_one_a m_one_b m_two_a m_two_b m_three_a m_three_b m_four_a m_four_b m_out_a m_out_b m_spare_a m_spare_b : Int64) (m_marks : Nat → Int32) (x : Int32 × Int64 × Int64 × Int64 × Int64 × Int64 × Int32 × Int32 × Int32 × (Nat → Int64) × (Nat → Int64) × (Nat → Int64) × Int32 × Int64 × Int64 × Int64 × Int64 × Int64 × Int64 × Int64 × Int64 × Int64 × Int64 × Int64 × Int64 × Int64 × Int64 × (Nat → Int64) × (Nat → Int64) × Int64 × Int64 × Int64 × Int64 × Int64 × Int64 × Int64 × Int64 × Int64 × Int64 × Int64 × Int64 × Int64 × Int64 × Int64 × Int64) (hf : f_X10_sign N v1 v2 m_drawers_full m_drawers_partA m_drawers_partB m_modulus_step m_modulus_width m_modulus_slant m_modulus_square_a m_modulus_square_b m_factors_count m_factors_threes m_factors_unit m_factors_primeA m_factors_primeB m_factors_norms m_factors_euclid_count m_factors_euclid_last_a m_factors_euclid_last_b m_factors_euclid_lastOfFirst_a m_factors_euclid_lastOfFirst_b m_factors_euclid_lastOfSecond_a m_factors_euclid_lastOfSecond_b m_factors_euclid_next_a m_factors_euclid_next_b m_factors_euclid_nextOfFirst_a m_factors_euclid_nextOfFirst_b m_factors_euclid_nextOfSecond_a m_factors_euclid_nextOfSecond_b m_factors_euclid_q_a m_factors_euclid_q_b m_factors_euclid_quotientA m_factors_euclid_quotientB m_factors_left_a m_factors_left_b m_factors_found_a m_factors_found_b m_factors_product_a m_factors_product_b m_one_a m_one_b m_two_a m_two_b m_four_a m_four_b m_out_a m_out_b m_spare_a m_spare_b = some x) : kx_MI l yX10_sign cX10_sign 4 (some .int) 7 171 D T [.ref (h 0), .int v1, .int v2] (wC T h m_drawers_full m_drawers_kept m_drawers_partA m_drawers_partB m_drawers_keptA m_drawers_keptB m_drawers_keptFull m_tape_size m_tape_plain m_tape_omegas m_tape_end m_tape_place m_tape_plainTold m_tape_omegasTold m_tape_bytes m_euclid_count m_euclid_last_a m_euclid_last_b m_euclid_lastOfFirst_a m_euclid_lastOfFirst_b m_euclid_lastOfSecond_a m_euclid_lastOfSecond_b m_euclid_next_a m_euclid_next_b m_euclid_nextOfFirst_a m_euclid_nextOfFirst_b m_euclid_nextOfSecond_a m_euclid_nextOfSecond_b m_euclid_q_a m_euclid_q_b m_euclid_quotientA m_euclid_quotientB m_modulus_step m_modulus_width m_modulus_slant m_modulus_square_a m_modulus_square_b m_factors_count m_factors_threes m_factors_unit m_factors_primeA m_factors_primeB m_factors_norms m_factors_euclid_count m_factors_euclid_last_a m_factors_euclid_last_b m_factors_euclid_lastOfFirst_a m_factors_euclid_lastOfFirst_b m_factors_euclid_lastOfSecond_a m_factors_euclid_lastOfSecond_b m_factors_euclid_next_a m_factors_euclid_next_b m_factors_euclid_nextOfFirst_a m_factors_euclid_nextOfFirst_b m_factors_euclid_nextOfSecond_a m_factors_euclid_nextOfSecond_b m_factors_euclid_q_a m_factors_euclid_q_b m_factors_euclid_quotientA m_factors_euclid_quotientB m_factors_left_a m_factors_left_b m_factors_found_a m_factors_found_b m_factors_product_a m_factors_product_b m_primes_count m_primes_primeA m_primes_primeB m_primes_found_a m_primes_found_b m_rings_foundA m_rings_foundB m_rings_all m_rings_mostOfOneRow m_letters_count m_letters_bytes m_one_a m_one_b m_two_a m_two_b m_three_a m_three_b m_four_a m_four_b m_out_a m_out_b m_spare_a m_spare_b m_marks) (wC T h m_drawers_full m_drawers_kept m_drawers_partA m_drawers_partB m_drawers_keptA m_drawers_keptB m_drawers_keptFull m_tape_size m_tape_plain m_tape_omegas m_tape_end m_tape_place m_tape_plainTold m_tape_omegasTold m_tape_bytes m_euclid_count m_euclid_last_a m_euclid_last_b m_euclid_lastOfFirst_a m_euclid_lastOfFirst_b m_euclid_lastOfSecond_a m_euclid_lastOfSecond_b m_euclid_next_a m_euclid_next_b m_euclid_nextOfFirst_a m_euclid_nextOfFirst_b m_euclid_nextOfSecond_a m_euclid_nextOfSecond_b m_euclid_q_a m_euclid_q_b m_euclid_quotientA m_euclid_quotientB x.2.1 x.2.2.1 x.2.2.2.1 x.2.2.2.2.1 x.2.2.2.2.2.1 x.2.2.2.2.2.2.1 x.2.2.2.2.2.2.2.1 x.2.2.2.2.2.2.2.2.1 x.2.2.2.2.2.2.2.2.2.1 x.2.2.2.2.2.2.2.2.2.2.1 x.2.2.2.2.2.2.2.2.2.2.2.1 x.2.2.2.2.2.2.2.2.2.2.2.2.1 x.2.2.2.2.2.2.2.2.2.2.2.2.2.1 x.2.2.2.2.2.2.2.2.2.2.2.2.2.2.1 x.2.2.2.2.2.2.2.2.2.2.2.2.2.2.2.1 x.2.2.2.2.2.2.2.2.2.2.2.2.2.2.2.2.1 x.2.2.2.2.2.2.2.2.2.2.2.2.2.2.2.2.2.1 x.2.2.2.2.2.2.2.2.2.2.2.2.2.2.2.2.2.2.1 x.2.2.2.2.2.2.2.2.2.2.2.2.2.2.2.2.2.2.2.1 x.2.2.2.2.2.2.2.2.2.2.2.2.2.2.2.2.2.2.2.2.1 x.2.2.2.2.2.2.2.2.2.2.2.2.2.2.2.2.2.2.2.2.2.1 x.2.2.2.2.2.2.2.2.2.2.2.2.2.2.2.2.2.2.2.2.2.2.1 x.2.2.2.2.2.2.2.2.2.2.2.2.2.2.2.2.2.2.2.2.2.2.2.1 x.2.2.2.2.2.2.2.2.2.2.2.2.2.2.2.2.2.2.2.2.2.2.2.2.1 x.2.2.2.2.2.2.2.2.2.2.2.2.2.2.2.2.2.2.2.2.2.2.2.2.2.1 x.2.2.2.2.2.2.2.2.2.2.2.2.2.2.2.2.2.2.2.2.2.2.2.2.2.2.1 x.2.2.2.2.2.2.2.2.2.2.2.2.2.2.2.2.2.2.2.2.2.2.2.2.2.2.2.1 x.2.2.2.2.2.2.2.2.2.2.2.2.2.2.2.2.2.2.2.2.2.2.2.2.2.2.2.2.1 x.2.2.2.2.2.2.2.2.2.2.2.2.2.2.2.2.2.2.2.2.2.2.2.2.2.2.2.2.2.1 x.2.2.2.2.2.2.2.2.2.2.2.2.2.2.2.2.2.2.2.2.2.2.2.2.2.2.2.2.2.2.1 x.2.2.2.2.2.2.2.2.2.2.2.2.2.2.2.2.2.2.2.2.2.2.2.2.2.2.2.2.2.2.2.1 x.2.2.2.2.2.2.2.2.2.2.2.2.2.2.2.2.2.2.2.2.2.2.2.2.2.2.2.2.2.2.2.2.1 x.2.2.2.2.2.2.2.2.2.2.2.2.2.2.2.2.2.2.2.2.2.2.2.2.2.2.2.2.2.2.2.2.2.1 x.2.2.2.2.2.2.2.2.2.2.2.2.2.2.2.2.2.2.2.2.2.2.2.2.2.2.2.2.2.2.2.2.2.2.1 m_primes_count m_primes_primeA m_primes_primeB m_primes_found_a m_primes_found_b m_rings_foundA m_rings_foundB m_rings_all m_rings_mostOfOneRow m_letters_count m_letters_bytes x.2.2.2.2.2.2.2.2.2.2.2.2.2.2.2.2.2.2.2.2.2.2.2.2.2.2.2.2.2.2.2.2.2.2.2.1 x.2.2.2.2.2.2.2.2.2.2.2.2.2.2.2.2.2.2.2.2.2.2.2.2.2.2.2.2.2.2.2.2.2.2.2.2.1 x.2.2.2.2.2.2.2.2.2.2.2.2.2.2.2.2.2.2.2.2.2.2.2.2.2.2.2.2.2.2.2.2.2.2.2.2.2.1 x.2.2.2.2.2.2.2.2.2.2.2.2.2.2.2.2.2.2.2.2.2.2.2.2.2.2.2.2.2.2.2.2.2.2.2.2.2.2.1 m_three_a m_three_b x.2.2.2.2.2.2.2.2.2.2.2.2.2.2.2.2.2.2.2.2.2.2.2.2.2.2.2.2.2.2.2.2.2.2.2.2.2.2.2.1 x.2.2.2.2.2.2.2.2.2.2.2.2.2.2.2.2.2.2.2.2.2.2.2.2.2.2.2.2.2.2.2.2.2.2.2.2.2.2.2.2.1 x.2.2.2.2.2.2.2.2.2.2.2.2.2.2.2.2.2.2.2.2.2.2.2.2.2.2.2.2.2.2.2.2.2.2.2.2.2.2.2.2.2.1 x.2.2.2.2.2.2.2.2.2.2.2.2.2.2.2.2.2.2.2.2.2.2.2.2.2.2.2.2.2.2.2.2.2.2.2.2.2.2.2.2.2.2.1 x.2.2.2.2.2.2.2.2.2.2.2.2.2.2.2.2.2.2.2.2.2.2.2.2.2.2.2.2.2.2.2.2.2.2.2.2.2.2.2.2.2.2.2.1 x.2.2.2.2.2.2.2.2.2.2.2.2.2.2.2.2.2.2.2.2.2.2.2.2.2.2.2.2.2.2.2.2.2.2.2.2.2.2.2.2.2.2.2.2 m_marks) x.1 := by
  refine kx_ofMI RX10 rfl (plainFor_of_name (x := yX10_sign) kpn_X10) rfl ?_
  intro E A H ls _ C X R hl
  have hl : lv_has ls 4 [(0, .ref (h 0)), (1, .int v1), (2, .int v2)] := hl
  rw [f_X10_sign] at hf
  refine x_aload_n 1 C dX10_sign_0 hl 0 rfl rfl ?_
  refine x_iload_n 2 C dX10_sign_1 hl 1 rfl rfl ?_
  refine x_iload_n 3 C dX10_sign_2 hl 2 rfl rfl ?_
  obtain ⟨y3, hy3, hf⟩ := kx_bind hf
  refine x_callVi0 6 C dX10_sign_3 X hl kl_X10_176 (c_X10_loadTwo E.2.1 D T h v1 v2 m_drawers_full m_drawers_kept m_drawers_partA m_drawers_partB m_drawers_keptA m_drawers_keptB m_drawers_keptFull m_tape_size m_tape_plain m_tape_omegas m_tape_end m_tape_place m_tape_plainTold m_tape_omegasTold m_tape_bytes m_euclid_count m_euclid_last_a m_euclid_last_b m_euclid_lastOfFirst_a m_euclid_lastOfFirst_b m_euclid_lastOfSecond_a m_euclid_lastOfSecond_b m_euclid_next_a m_euclid_next_b m_euclid_nextOfFirst_a m_euclid_nextOfFirst_b m_euclid_nextOfSecond_a m_euclid_nextOfSecond_b m_euclid_q_a m_euclid_q_b m_euclid_quotientA m_euclid_quotientB m_modulus_step m_modulus_width m_modulus_slant m_modulus_square_a m_modulus_square_b m_factors_count m_factors_threes m_factors_unit m_factors_primeA m_factors_primeB m_factors_norms m_factors_euclid_count m_factors_euclid_last_a m_factors_euclid_last_b m_factors_euclid_lastOfFirst_a m_factors_euclid_lastOfFirst_b m_factors_euclid_lastOfSecond_a m_factors_euclid_lastOfSecond_b m_factors_euclid_next_a m_factors_euclid_next_b m_factors_euclid_nextOfFirst_a m_factors_euclid_nextOfFirst_b m_factors_euclid_nextOfSecond_a m_factors_euclid_nextOfSecond_b m_factors_euclid_q_a m_factors_euclid_q_b m_factors_euclid_quotientA m_factors_euclid_quotientB m_factors_left_a m_factors_left_b m_factors_found_a m_factors_found_b m_factors_product_a m_factors_product_b m_primes_count m_primes_primeA m_primes_primeB m_primes_found_a m_primes_found_b m_rings_foundA m_rings_foundB m_rings_all m_rings_mostOfOneRow m_letters_count m_letters_bytes m_one_a m_one_b m_two_a m_two_b m_three_a m_three_b m_four_a m_four_b m_out_a m_out_b m_spare_a m_spare_b m_marks y3 hy3) rfl rfl [] rfl rfl rfl rfl rfl rfl (fun H locs X => ?_)
  refine x_istore_n 7 C dX10_sign_6 [(3, .int y3.1), (0, .ref (h 0)), (1, .int v1), (2, .int v2)] hl rfl rfl rfl (fun ls hl => ?_)
  refine x_iload_n 8 C dX10_sign_7 hl 0 rfl rfl ?_
  refine x_if_eq 13 11 C dX10_sign_8 rfl rfl hf (fun hf => ?_) (fun hf => ?_)
  · refine x_aload_n 14 C dX10_sign_13 hl 1 rfl rfl ?_
    refine x_get 17 C dX10_sign_14 X kf_X10_74 0 rfl rfl rfl ?_
    obtain ⟨y17, hy17, hf⟩ := kx_bind hf
    refine x_callSi 20 C dX10_sign_17 X hl kl_X10_259 (c_X10_bearsSigns E.2.1 D T (h 46)  y3.2.2.2.1 y3.2.2.2.2 y17 hy17) [] rfl rfl rfl rfl rfl cb_82 rfl (fun H locs X => ?_)
    refine x_if_eq 38 23 C dX10_sign_20 rfl rfl hf (fun hf => ?_) (fun hf => ?_)
    · refine x_bipush 40 C dX10_sign_38 (-3 : Int32) kv_bipush_m3 rfl ?_
      obtain rfl := Option.some.inj hf
      exact R _ _ _ _ X dX10_sign_40
    refine x_aload_n 24 C dX10_sign_23 hl 1 rfl rfl ?_
    refine x_aload_n 25 C dX10_sign_24 hl 1 rfl rfl ?_
    refine x_get 28 C dX10_sign_25 X kf_X10_70 0 rfl rfl rfl ?_
    refine x_aload_n 29 C dX10_sign_28 hl 1 rfl rfl ?_
    refine x_get 32 C dX10_sign_29 X kf_X10_74 0 rfl rfl rfl ?_
    obtain ⟨y32, hy32, hf⟩ := kx_bind hf
    refine x_callVi0 35 C dX10_sign_32 X hl kl_X10_379 (c_X10_signOf_p1_one_p2_two E.2.1 D T h N  m_drawers_full m_drawers_kept m_drawers_partA m_drawers_partB m_drawers_keptA m_drawers_keptB m_drawers_keptFull m_tape_size m_tape_plain m_tape_omegas m_tape_end m_tape_place m_tape_plainTold m_tape_omegasTold m_tape_bytes m_euclid_count m_euclid_last_a m_euclid_last_b m_euclid_lastOfFirst_a m_euclid_lastOfFirst_b m_euclid_lastOfSecond_a m_euclid_lastOfSecond_b m_euclid_next_a m_euclid_next_b m_euclid_nextOfFirst_a m_euclid_nextOfFirst_b m_euclid_nextOfSecond_a m_euclid_nextOfSecond_b m_euclid_q_a m_euclid_q_b m_euclid_quotientA m_euclid_quotientB m_modulus_step m_modulus_width m_modulus_slant m_modulus_square_a m_modulus_square_b m_factors_count m_factors_threes m_factors_unit m_factors_primeA m_factors_primeB m_factors_norms m_factors_euclid_count m_factors_euclid_last_a m_factors_euclid_last_b m_factors_euclid_lastOfFirst_a m_factors_euclid_lastOfFirst_b m_factors_euclid_lastOfSecond_a m_factors_euclid_lastOfSecond_b m_factors_euclid_next_a m_factors_euclid_next_b m_factors_euclid_nextOfFirst_a m_factors_euclid_nextOfFirst_b m_factors_euclid_nextOfSecond_a m_factors_euclid_nextOfSecond_b m_factors_euclid_q_a m_factors_euclid_q_b m_factors_euclid_quotientA m_factors_euclid_quotientB m_factors_left_a m_factors_left_b m_factors_found_a m_factors_found_b m_factors_product_a m_factors_product_b m_primes_count m_primes_primeA m_primes_primeB m_primes_found_a m_primes_found_b m_rings_foundA m_rings_foundB m_rings_all m_rings_mostOfOneRow m_letters_count m_letters_bytes y3.2.1 y3.2.2.1 y3.2.2.2.1 y3.2.2.2.2 m_three_a m_three_b m_four_a m_four_b m_out_a m_out_b m_spare_a m_spare_b m_marks y32 hy32) rfl rfl [] rfl rfl rfl rfl rfl rfl (fun H locs X => ?_)
    refine x_goto 40 C dX10_sign_35 rfl ?_
    obtain rfl := Option.some.inj hf
    exact R _ _ _ _ X dX10_sign_40
  refine x_iload_n 12 C dX10_sign_11 hl 0 rfl rfl ?_
  obtain rfl := Option.some.inj hf
  exact R _ _ _ _ X dX10_sign_12
set_option maxHeartbeats 4000000 in
set_option maxRecDepth 100000 in
theorem w_X11_signNow_9 {E : KE} {A : Nat → Prop} {D : va_G} {T : KT} (h : Nat → Nat) (C : kx_C E cX11_signNow 9 (some .int) RX11 6 171 D T) (N : Nat) (x : Int32 × Int64 × Int64 × Int64 × Int64 × Int64) (m_taped m_states m_threes m_primes m_ones m_unit : Int32) (m_allParts m_allNorms m_allClasses : Int64) (m_odd m_partingMany : Int32) (m_qa m_qb m_la m_lb m_sa m_sb m_ta m_tb : Int64) (m_listed m_tells m_wanted m_found : Int32) (m_bits : Int64) (m_power2 m_rings m_ringA m_ringB m_seedNow : Int32) (m_tape m_has m_keptHas m_first m_second m_keptFirst m_keptSecond m_pa m_pb m_pNorm m_cubed m_isOpen m_signs m_often m_la0 m_lb0 : Nat → Int32) (R : kx_RI E cX11_signNow D A (wM T h m_taped m_states x.2.1 x.2.2.1 m_threes m_primes m_ones m_unit m_allParts m_allNorms m_allClasses m_odd x.2.2.2.1 x.2.2.2.2.1 x.2.2.2.2.2 m_partingMany m_qa m_qb m_la m_lb m_sa m_sb m_ta m_tb m_listed m_tells m_wanted m_found m_bits m_power2 m_rings m_ringA m_ringB m_seedNow m_tape m_has m_keptHas m_first m_second m_keptFirst m_keptSecond m_pa m_pb m_pNorm m_cubed m_isOpen m_signs m_often m_la0 m_lb0) x.1) : ∀ (k : Nat), ∀ (m_ra m_rb m_boxWide m_boxHigh m_boxStep : Int64) (v1 v3 : Int64) (v5 v6 v7 : Int32) (H : Heap) (locs : List Loc) (ls : Array Slot), kx_H E D A H locs (wM T h m_taped m_states m_ra m_rb m_threes m_primes m_ones m_unit m_allParts m_allNorms m_allClasses m_odd m_boxWide m_boxHigh m_boxStep m_partingMany m_qa m_qb m_la m_lb m_sa m_sb m_ta m_tb m_listed m_tells m_wanted m_found m_bits m_power2 m_rings m_ringA m_ringB m_seedNow m_tape m_has m_keptHas m_first m_second m_keptFirst m_keptSecond m_pa m_pb m_pNorm m_cubed m_isOpen m_signs m_often m_la0 m_lb0) → lv_has ls 9 [(0, .ref (h 0)), (1, .long v1), (3, .long v3), (5, .int v5), (6, .int v6), (7, .int v7)] → f_X11_signNow_9 N k v1 v3 v5 v6 v7 m_ra m_rb m_primes m_boxWide m_boxHigh m_boxStep m_pa m_pb = some x → kx_W E H locs 9 ls [] := by
  intro k
  induction k with
  | zero =>
    intro m_ra m_rb m_boxWide m_boxHigh m_boxStep v1 v3 v5 v6 v7 H locs ls X hl hf
    cases (show (none : Option (Int32 × Int64 × Int64 × Int64 × Int64 × Int64)) = some x from hf)
  | succ k ih =>
    intro m_ra m_rb m_boxWide m_boxHigh m_boxStep v1 v3 v5 v6 v7 H locs ls X hl hf
    rw [f_X11_signNow_9] at hf
    refine x_iload 11 C dX11_signNow_9 hl 5 rfl rfl ?_
    refine x_aload_n 12 C dX11_signNow_11 hl 0 rfl rfl ?_
    refine x_get 15 C dX11_signNow_12 X kf_X11_201 0 rfl rfl rfl ?_
    refine x_icmp_ge 73 18 C dX11_signNow_15 rfl rfl hf (fun hf => ?_) (fun hf => ?_)
    · refine x_iload 75 C dX11_signNow_73 hl 4 rfl rfl ?_
      refine x_if_eq 82 78 C dX11_signNow_75 rfl rfl hf (fun hf => ?_) (fun hf => ?_)
      · refine x_iload 84 C dX11_signNow_82 hl 3 rfl rfl ?_
        refine x_iconst 85 C dX11_signNow_84 (3 : Int32) kv_iconst_3 rfl ?_
        refine x_irem0 86 C dX11_signNow_85 kz_i_3 rfl ?_
        obtain rfl := Option.some.inj hf
        exact R _ _ _ _ X dX11_signNow_86
      refine x_iconst 79 C dX11_signNow_78 (3 : Int32) kv_iconst_3 rfl ?_
      refine x_goto 86 C dX11_signNow_79 rfl ?_
      obtain rfl := Option.some.inj hf
      exact R _ _ _ _ X dX11_signNow_86
    refine x_aload_n 19 C dX11_signNow_18 hl 0 rfl rfl ?_
    refine x_lload_n 20 C dX11_signNow_19 hl 1 rfl rfl ?_
    refine x_lload_n 21 C dX11_signNow_20 hl 2 rfl rfl ?_
    refine x_aload_n 22 C dX11_signNow_21 hl 0 rfl rfl ?_
    refine x_get 25 C dX11_signNow_22 X kf_X11_33 0 rfl rfl rfl ?_
    refine x_iload 27 C dX11_signNow_25 hl 5 rfl rfl ?_
    refine x_iald 28 C dX11_signNow_27 X 8 rfl hf rfl (fun hf => ?_)
    refine x_i2l 29 C dX11_signNow_28 rfl ?_
    refine x_aload_n 30 C dX11_signNow_29 hl 0 rfl rfl ?_
    refine x_get 33 C dX11_signNow_30 X kf_X11_36 0 rfl rfl rfl ?_
    refine x_iload 35 C dX11_signNow_33 hl 5 rfl rfl ?_
    refine x_iald 36 C dX11_signNow_35 X 9 rfl hf rfl (fun hf => ?_)
    refine x_i2l 37 C dX11_signNow_36 rfl ?_
    obtain ⟨y37, hy37, hf⟩ := kx_bind hf
    refine x_callVi0 40 C dX11_signNow_37 X hl kl_X11_349 (c_X11_signAt E.2.1 D T h N v1 v3 ((m_pa (v7).toNatClampNeg)).toInt64 ((m_pb (v7).toNatClampNeg)).toInt64 m_taped m_states m_ra m_rb m_threes m_primes m_ones m_unit m_allParts m_allNorms m_allClasses m_odd m_boxWide m_boxHigh m_boxStep m_partingMany m_qa m_qb m_la m_lb m_sa m_sb m_ta m_tb m_listed m_tells m_wanted m_found m_bits m_power2 m_rings m_ringA m_ringB m_seedNow m_tape m_has m_keptHas m_first m_second m_keptFirst m_keptSecond m_pa m_pb m_pNorm m_cubed m_isOpen m_signs m_often m_la0 m_lb0 y37 hy37) rfl rfl [] rfl rfl rfl rfl rfl rfl (fun H locs X => ?_)
    refine x_istore 42 C dX11_signNow_40 [(8, .int y37.1), (0, .ref (h 0)), (1, .long v1), (3, .long v3), (5, .int v5), (6, .int v6), (7, .int v7)] hl rfl rfl rfl (fun ls hl => ?_)
    refine x_iload 44 C dX11_signNow_42 hl 5 rfl rfl ?_
    refine x_if_ne 53 47 C dX11_signNow_44 rfl rfl hf (fun hf => ?_) (fun hf => ?_)
    · refine x_iconst 54 C dX11_signNow_53 (1 : Int32) kv_iconst_1 rfl ?_
      refine x_goto 58 C dX11_signNow_54 rfl ?_
      refine x_istore 60 C dX11_signNow_58 [(6, .int (1 : Int32)), (8, .int y37.1), (0, .ref (h 0)), (1, .long v1), (3, .long v3), (5, .int v5), (7, .int v7)] hl rfl rfl rfl (fun ls hl => ?_)
      refine x_iload 62 C dX11_signNow_60 hl 5 rfl rfl ?_
      refine x_iload 64 C dX11_signNow_62 hl 1 rfl rfl ?_
      refine x_iadd 65 C dX11_signNow_64 rfl ?_
      refine x_istore 67 C dX11_signNow_65 [(5, .int (v5 + y37.1)), (6, .int (1 : Int32)), (8, .int y37.1), (0, .ref (h 0)), (1, .long v1), (3, .long v3), (7, .int v7)] hl rfl rfl rfl (fun ls hl => ?_)
      refine x_iinc 70 C dX11_signNow_67 (1 : Int32) kv_iconst_1 [(7, .int (v7 + (1 : Int32))), (5, .int (v5 + y37.1)), (6, .int (1 : Int32)), (8, .int y37.1), (0, .ref (h 0)), (1, .long v1), (3, .long v3)] hl 6 rfl rfl rfl rfl (fun ls hl => ?_)
      refine x_goto 9 C dX11_signNow_70 rfl ?_
      exact ih y37.2.1 y37.2.2.1 y37.2.2.2.1 y37.2.2.2.2.1 y37.2.2.2.2.2 v1 v3 (v5 + y37.1) (1 : Int32) (v7 + (1 : Int32)) _ _ _ X (lv_sub hl [4, 5, 6, 1, 2, 0] rfl) hf
    refine x_iload 49 C dX11_signNow_47 hl 0 rfl rfl ?_
    refine x_iconst 50 C dX11_signNow_49 (3 : Int32) kv_iconst_3 rfl ?_
    refine x_icmp_ne 57 53 C dX11_signNow_50 rfl rfl hf (fun hf => ?_) (fun hf => ?_)
    · refine x_iconst 58 C dX11_signNow_57 (0 : Int32) kv_iconst_0 rfl ?_
      refine x_istore 60 C dX11_signNow_58 [(6, .int (0 : Int32)), (8, .int y37.1), (0, .ref (h 0)), (1, .long v1), (3, .long v3), (5, .int v5), (7, .int v7)] hl rfl rfl rfl (fun ls hl => ?_)
      refine x_iload 62 C dX11_signNow_60 hl 5 rfl rfl ?_
      refine x_iload 64 C dX11_signNow_62 hl 1 rfl rfl ?_
      refine x_iadd 65 C dX11_signNow_64 rfl ?_
      refine x_istore 67 C dX11_signNow_65 [(5, .int (v5 + y37.1)), (6, .int (0 : Int32)), (8, .int y37.1), (0, .ref (h 0)), (1, .long v1), (3, .long v3), (7, .int v7)] hl rfl rfl rfl (fun ls hl => ?_)
      refine x_iinc 70 C dX11_signNow_67 (1 : Int32) kv_iconst_1 [(7, .int (v7 + (1 : Int32))), (5, .int (v5 + y37.1)), (6, .int (0 : Int32)), (8, .int y37.1), (0, .ref (h 0)), (1, .long v1), (3, .long v3)] hl 6 rfl rfl rfl rfl (fun ls hl => ?_)
      refine x_goto 9 C dX11_signNow_70 rfl ?_
      exact ih y37.2.1 y37.2.2.1 y37.2.2.2.1 y37.2.2.2.2.1 y37.2.2.2.2.2 v1 v3 (v5 + y37.1) (0 : Int32) (v7 + (1 : Int32)) _ _ _ X (lv_sub hl [4, 5, 6, 1, 2, 0] rfl) hf
    refine x_iconst 54 C dX11_signNow_53 (1 : Int32) kv_iconst_1 rfl ?_
    refine x_goto 58 C dX11_signNow_54 rfl ?_
    refine x_istore 60 C dX11_signNow_58 [(6, .int (1 : Int32)), (8, .int y37.1), (0, .ref (h 0)), (1, .long v1), (3, .long v3), (5, .int v5), (7, .int v7)] hl rfl rfl rfl (fun ls hl => ?_)
    refine x_iload 62 C dX11_signNow_60 hl 5 rfl rfl ?_
    refine x_iload 64 C dX11_signNow_62 hl 1 rfl rfl ?_
    refine x_iadd 65 C dX11_signNow_64 rfl ?_
    refine x_istore 67 C dX11_signNow_65 [(5, .int (v5 + y37.1)), (6, .int (1 : Int32)), (8, .int y37.1), (0, .ref (h 0)), (1, .long v1), (3, .long v3), (7, .int v7)] hl rfl rfl rfl (fun ls hl => ?_)
    refine x_iinc 70 C dX11_signNow_67 (1 : Int32) kv_iconst_1 [(7, .int (v7 + (1 : Int32))), (5, .int (v5 + y37.1)), (6, .int (1 : Int32)), (8, .int y37.1), (0, .ref (h 0)), (1, .long v1), (3, .long v3)] hl 6 rfl rfl rfl rfl (fun ls hl => ?_)
    refine x_goto 9 C dX11_signNow_70 rfl ?_
    exact ih y37.2.1 y37.2.2.1 y37.2.2.2.1 y37.2.2.2.2.1 y37.2.2.2.2.2 v1 v3 (v5 + y37.1) (1 : Int32) (v7 + (1 : Int32)) _ _ _ X (lv_sub hl [4, 5, 6, 1, 2, 0] rfl) hf
set_option maxHeartbeats 4000000 in
set_option maxRecDepth 100000 in
theorem c_X11_signNow (l : Launch) (D : va_G) (T : KT) (h : Nat → Nat) (N : Nat) (v1 v3 : Int64) (m_taped m_states : Int32) (m_ra m_rb : Int64) (m_threes m_primes m_ones m_unit : Int32) (m_allParts m_allNorms m_allClasses : Int64) (m_odd : Int32) (m_boxWide m_boxHigh m_boxStep : Int64) (m_partingMany : Int32) (m_qa m_qb m_la m_lb m_sa m_sb m_ta m_tb : Int64) (m_listed m_tells m_wanted m_found : Int32) (m_bits : Int64) (m_power2 m_rings m_ringA m_ringB m_seedNow : Int32) (m_tape m_has m_keptHas m_first m_second m_keptFirst m_keptSecond m_pa m_pb m_pNorm m_cubed m_isOpen m_signs m_often m_la0 m_lb0 : Nat → Int32) (x : Int32 × Int64 × Int64 × Int64 × Int64 × Int64) (hf : f_X11_signNow N v1 v3 m_ra m_rb m_primes m_boxWide m_boxHigh m_boxStep m_pa m_pb = some x) : kx_MI l yX11_signNow cX11_signNow 9 (some .int) 6 171 D T [.ref (h 0), .long v1, .long v3] (wM T h m_taped m_states m_ra m_rb m_threes m_primes m_ones m_unit m_allParts m_allNorms m_allClasses m_odd m_boxWide m_boxHigh m_boxStep m_partingMany m_qa m_qb m_la m_lb m_sa m_sb m_ta m_tb m_listed m_tells m_wanted m_found m_bits m_power2 m_rings m_ringA m_ringB m_seedNow m_tape m_has m_keptHas m_first m_second m_keptFirst m_keptSecond m_pa m_pb m_pNorm m_cubed m_isOpen m_signs m_often m_la0 m_lb0) (wM T h m_taped m_states x.2.1 x.2.2.1 m_threes m_primes m_ones m_unit m_allParts m_allNorms m_allClasses m_odd x.2.2.2.1 x.2.2.2.2.1 x.2.2.2.2.2 m_partingMany m_qa m_qb m_la m_lb m_sa m_sb m_ta m_tb m_listed m_tells m_wanted m_found m_bits m_power2 m_rings m_ringA m_ringB m_seedNow m_tape m_has m_keptHas m_first m_second m_keptFirst m_keptSecond m_pa m_pb m_pNorm m_cubed m_isOpen m_signs m_often m_la0 m_lb0) x.1 := by
  refine kx_ofMI RX11 rfl (plainFor_of_name (x := yX11_signNow) kpn_X11) rfl ?_
  intro E A H ls _ C X R hl
  have hl : lv_has ls 9 [(0, .ref (h 0)), (1, .long v1), (3, .long v3)] := hl
  rw [f_X11_signNow] at hf
  refine x_iconst 1 C dX11_signNow_0 (0 : Int32) kv_iconst_0 rfl ?_
  refine x_istore 3 C dX11_signNow_1 [(5, .int (0 : Int32)), (0, .ref (h 0)), (1, .long v1), (3, .long v3)] hl rfl rfl rfl (fun ls hl => ?_)
  refine x_iconst 4 C dX11_signNow_3 (0 : Int32) kv_iconst_0 rfl ?_
  refine x_istore 6 C dX11_signNow_4 [(6, .int (0 : Int32)), (5, .int (0 : Int32)), (0, .ref (h 0)), (1, .long v1), (3, .long v3)] hl rfl rfl rfl (fun ls hl => ?_)
  refine x_iconst 7 C dX11_signNow_6 (0 : Int32) kv_iconst_0 rfl ?_
  refine x_istore 9 C dX11_signNow_7 [(7, .int (0 : Int32)), (6, .int (0 : Int32)), (5, .int (0 : Int32)), (0, .ref (h 0)), (1, .long v1), (3, .long v3)] hl rfl rfl rfl (fun ls hl => ?_)
  exact w_X11_signNow_9 h C N x m_taped m_states m_threes m_primes m_ones m_unit m_allParts m_allNorms m_allClasses m_odd m_partingMany m_qa m_qb m_la m_lb m_sa m_sb m_ta m_tb m_listed m_tells m_wanted m_found m_bits m_power2 m_rings m_ringA m_ringB m_seedNow m_tape m_has m_keptHas m_first m_second m_keptFirst m_keptSecond m_pa m_pb m_pNorm m_cubed m_isOpen m_signs m_often m_la0 m_lb0 R  N m_ra m_rb m_boxWide m_boxHigh m_boxStep v1 v3 (0 : Int32) (0 : Int32) (0 : Int32) _ _ _ X (lv_sub hl [3, 4, 5, 2, 1, 0] rfl) hf
