set_option maxHeartbeats 4000000 in
set_option maxRecDepth 100000 in
theorem c_X8_hasRoomFor (l : Launch) (D : va_G) (T : KT) (h0 h1 : Nat) (v1 : Int32) (m_size m_plain m_omegas m_end m_place m_plainTold m_omegasTold : Int32) (x : Int32) (hf : f_X8_hasRoomFor v1 m_size = some x) : kx_MI l yX8_hasRoomFor cX8_hasRoomFor 2 (some .boolean) 0 0 D T [.ref h0, .int v1] (w2_X8 T h0 h1 m_size m_plain m_omegas m_end m_place m_plainTold m_omegasTold) (w2_X8 T h0 h1 m_size m_plain m_omegas m_end m_place m_plainTold m_omegasTold) x := by
  refine kx_ofMZ RX8 rfl (plainFor_of_name (x := yX8_hasRoomFor) kpn_X8) rfl ?_
  intro E A H ls _ C X R hl
  have hl : lv_has ls 2 [(0, .ref h0), (1, .int v1)] := hl
  rw [f_X8_hasRoomFor] at hf
  refine x_aload_n 1 C dX8_hasRoomFor_0 hl 0 rfl rfl ?_
  refine x_get 4 C dX8_hasRoomFor_1 X kf_X8_13 0 rfl rfl rfl ?_
  refine x_iload_n 5 C dX8_hasRoomFor_4 hl 1 rfl rfl ?_
  refine x_iadd 6 C dX8_hasRoomFor_5 rfl ?_
  refine x_bipush 8 C dX8_hasRoomFor_6 (80 : Int32) kv_bipush_80 rfl ?_
  refine x_icmp_gt 15 11 C dX8_hasRoomFor_8 rfl rfl hf (fun hf => ?_) (fun hf => ?_)
  · refine x_iconst 16 C dX8_hasRoomFor_15 (0 : Int32) kv_iconst_0 rfl ?_
    obtain rfl := Option.some.inj hf
    exact R _ _ _ _ X kb_0 dX8_hasRoomFor_16
  refine x_iconst 12 C dX8_hasRoomFor_11 (1 : Int32) kv_iconst_1 rfl ?_
  refine x_goto 16 C dX8_hasRoomFor_12 rfl ?_
  obtain rfl := Option.some.inj hf
  exact R _ _ _ _ X kb_1 dX8_hasRoomFor_16
set_option maxHeartbeats 4000000 in
set_option maxRecDepth 100000 in
theorem w_X8_addBytesOf_3 {E : KE} {A : Nat → Prop} {D : va_G} {T : KT} (h0 h1 : Nat) (C : kx_C E cX8_addBytesOf 3 none RX8 0 0 D T) (N : Nat) (x : Int32 × (Nat → Int32)) (m_plain m_omegas m_end m_place m_plainTold m_omegasTold : Int32) (R : kx_RV E cX8_addBytesOf D A (w1_X8 T h0 h1 x.1 m_plain m_omegas m_end m_place m_plainTold m_omegasTold x.2)) : ∀ (k : Nat), ∀ (m_size : Int32) (m_bytes : Nat → Int32) (v1 v2 : Int32) (H : Heap) (locs : List Loc) (ls : Array Slot), kx_H E D A H locs (w1_X8 T h0 h1 m_size m_plain m_omegas m_end m_place m_plainTold m_omegasTold m_bytes) → lv_has ls 3 [(0, .ref h0), (1, .int v1), (2, .int v2)] → f_X8_addBytesOf_3 N k v1 v2 m_size m_bytes = some x → kx_W E H locs 3 ls [] := by
  intro k
  induction k with
  | zero =>
    intro m_size m_bytes v1 v2 H locs ls X hl hf
    cases (show (none : Option (Int32 × (Nat → Int32))) = some x from hf)
  | succ k ih =>
    intro m_size m_bytes v1 v2 H locs ls X hl hf
    rw [f_X8_addBytesOf_3] at hf
    refine x_iload_n 4 C dX8_addBytesOf_3 hl 2 rfl rfl ?_
    refine x_if_lt 55 7 C dX8_addBytesOf_4 rfl rfl hf (fun hf => ?_) (fun hf => ?_)
    · obtain rfl := Option.some.inj hf
      exact R _ _ _ _ X dX8_addBytesOf_55
    refine x_aload_n 8 C dX8_addBytesOf_7 hl 0 rfl rfl ?_
    refine x_get 11 C dX8_addBytesOf_8 X kf_X8_13 0 rfl rfl rfl ?_
    refine x_if_lt 49 14 C dX8_addBytesOf_11 rfl rfl hf (fun hf => ?_) (fun hf => ?_)
    · refine x_iinc 52 C dX8_addBytesOf_49 (-8 : Int32) kv_iconst_m8 [(2, .int (v2 + (-8 : Int32))), (0, .ref h0), (1, .int v1)] hl 2 rfl rfl rfl rfl (fun ls hl => ?_)
      refine x_goto 3 C dX8_addBytesOf_52 rfl ?_
      exact ih m_size m_bytes v1 (v2 + (-8 : Int32)) _ _ _ X (lv_sub hl [1, 2, 0] rfl) hf
    refine x_aload_n 15 C dX8_addBytesOf_14 hl 0 rfl rfl ?_
    refine x_get 18 C dX8_addBytesOf_15 X kf_X8_13 0 rfl rfl rfl ?_
    refine x_bipush 20 C dX8_addBytesOf_18 (80 : Int32) kv_bipush_80 rfl ?_
    refine x_icmp_ge 49 23 C dX8_addBytesOf_20 rfl rfl hf (fun hf => ?_) (fun hf => ?_)
    · refine x_iinc 52 C dX8_addBytesOf_49 (-8 : Int32) kv_iconst_m8 [(2, .int (v2 + (-8 : Int32))), (0, .ref h0), (1, .int v1)] hl 2 rfl rfl rfl rfl (fun ls hl => ?_)
      refine x_goto 3 C dX8_addBytesOf_52 rfl ?_
      exact ih m_size m_bytes v1 (v2 + (-8 : Int32)) _ _ _ X (lv_sub hl [1, 2, 0] rfl) hf
    refine x_aload_n 24 C dX8_addBytesOf_23 hl 0 rfl rfl ?_
    refine x_get 27 C dX8_addBytesOf_24 X kf_X8_9 0 rfl rfl rfl ?_
    refine x_aload_n 28 C dX8_addBytesOf_27 hl 0 rfl rfl ?_
    refine x_get 31 C dX8_addBytesOf_28 X kf_X8_13 0 rfl rfl rfl ?_
    refine x_iload_n 32 C dX8_addBytesOf_31 hl 1 rfl rfl ?_
    refine x_iload_n 33 C dX8_addBytesOf_32 hl 2 rfl rfl ?_
    refine x_ishr 34 C dX8_addBytesOf_33 rfl ?_
    refine x_sipush 37 C dX8_addBytesOf_34 (255 : Int32) kv_sipush_255 rfl ?_
    refine x_iand 38 C dX8_addBytesOf_37 rfl ?_
    refine x_iast 39 C dX8_addBytesOf_38 X 1 rfl (w1_X8 T h0 h1 m_size m_plain m_omegas m_end m_place m_plainTold m_omegasTold (upd m_bytes (m_size).toNatClampNeg ((v1 >>> (v2 &&& 31)) &&& (255 : Int32)))) rfl hf rfl (fun H locs X hf => ?_)
    refine x_aload_n 40 C dX8_addBytesOf_39 hl 0 rfl rfl ?_
    refine x_dup 41 C dX8_addBytesOf_40 rfl rfl ?_
    refine x_get 44 C dX8_addBytesOf_41 X kf_X8_13 0 rfl rfl rfl ?_
    refine x_iconst 45 C dX8_addBytesOf_44 (1 : Int32) kv_iconst_1 rfl ?_
    refine x_iadd 46 C dX8_addBytesOf_45 rfl ?_
    refine x_put 49 C dX8_addBytesOf_46 X kp_X8_13 0 rfl rfl rfl rfl (w1_X8 T h0 h1 (m_size + (1 : Int32)) m_plain m_omegas m_end m_place m_plainTold m_omegasTold (upd m_bytes (m_size).toNatClampNeg ((v1 >>> (v2 &&& 31)) &&& (255 : Int32)))) rfl rfl (fun H locs X => ?_)
    refine x_iinc 52 C dX8_addBytesOf_49 (-8 : Int32) kv_iconst_m8 [(2, .int (v2 + (-8 : Int32))), (0, .ref h0), (1, .int v1)] hl 2 rfl rfl rfl rfl (fun ls hl => ?_)
    refine x_goto 3 C dX8_addBytesOf_52 rfl ?_
    exact ih (m_size + (1 : Int32)) (upd m_bytes (m_size).toNatClampNeg ((v1 >>> (v2 &&& 31)) &&& (255 : Int32))) v1 (v2 + (-8 : Int32)) _ _ _ X (lv_sub hl [1, 2, 0] rfl) hf
set_option maxHeartbeats 4000000 in
set_option maxRecDepth 100000 in
theorem c_X8_addBytesOf (l : Launch) (D : va_G) (T : KT) (h0 h1 : Nat) (N : Nat) (v1 : Int32) (m_size m_plain m_omegas m_end m_place m_plainTold m_omegasTold : Int32) (m_bytes : Nat → Int32) (x : Int32 × (Nat → Int32)) (hf : f_X8_addBytesOf N v1 m_size m_bytes = some x) : kx_MV l yX8_addBytesOf cX8_addBytesOf 3 none 0 0 D T [.ref h0, .int v1] (w1_X8 T h0 h1 m_size m_plain m_omegas m_end m_place m_plainTold m_omegasTold m_bytes) (w1_X8 T h0 h1 x.1 m_plain m_omegas m_end m_place m_plainTold m_omegasTold x.2) := by
  refine kx_ofMV RX8 rfl (plainFor_of_name (x := yX8_addBytesOf) kpn_X8) rfl ?_
  intro E A H ls _ C X R hl
  have hl : lv_has ls 3 [(0, .ref h0), (1, .int v1)] := hl
  rw [f_X8_addBytesOf] at hf
  refine x_bipush 2 C dX8_addBytesOf_0 (24 : Int32) kv_bipush_24 rfl ?_
  refine x_istore_n 3 C dX8_addBytesOf_2 [(2, .int (24 : Int32)), (0, .ref h0), (1, .int v1)] hl rfl rfl rfl (fun ls hl => ?_)
  exact w_X8_addBytesOf_3 h0 h1 C N x m_plain m_omegas m_end m_place m_plainTold m_omegasTold R  N m_size m_bytes v1 (24 : Int32) _ _ _ X (lv_sub hl [1, 2, 0] rfl) hf
set_option maxHeartbeats 4000000 in
set_option maxRecDepth 100000 in
theorem c_X10_feed (l : Launch) (D : va_G) (T : KT) (h : Nat → Nat) (N : Nat) (v1 v2 v3 v4 v5 : Int32) (m_drawers_full m_drawers_kept : Int32) (m_drawers_partA m_drawers_partB m_drawers_keptA m_drawers_keptB m_drawers_keptFull : Nat → Int32) (m_tape_size m_tape_plain m_tape_omegas m_tape_end m_tape_place m_tape_plainTold m_tape_omegasTold : Int32) (m_tape_bytes : Nat → Int32) (m_euclid_count : Int32) (m_euclid_last_a m_euclid_last_b m_euclid_lastOfFirst_a m_euclid_lastOfFirst_b m_euclid_lastOfSecond_a m_euclid_lastOfSecond_b m_euclid_next_a m_euclid_next_b m_euclid_nextOfFirst_a m_euclid_nextOfFirst_b m_euclid_nextOfSecond_a m_euclid_nextOfSecond_b m_euclid_q_a m_euclid_q_b : Int64) (m_euclid_quotientA m_euclid_quotientB : Nat → Int64) (m_modulus_step m_modulus_width m_modulus_slant m_modulus_square_a m_modulus_square_b : Int64) (m_factors_count m_factors_threes m_factors_unit : Int32) (m_factors_primeA m_factors_primeB m_factors_norms : Nat → Int64) (m_factors_euclid_count : Int32) (m_factors_euclid_last_a m_factors_euclid_last_b m_factors_euclid_lastOfFirst_a m_factors_euclid_lastOfFirst_b m_factors_euclid_lastOfSecond_a m_factors_euclid_lastOfSecond_b m_factors_euclid_next_a m_factors_euclid_next_b m_factors_euclid_nextOfFirst_a m_factors_euclid_nextOfFirst_b m_factors_euclid_nextOfSecond_a m_factors_euclid_nextOfSecond_b m_factors_euclid_q_a m_factors_euclid_q_b : Int64) (m_factors_euclid_quotientA m_factors_euclid_quotientB : Nat → Int64) (m_factors_left_a m_factors_left_b m_factors_found_a m_factors_found_b m_factors_product_a m_factors_product_b : Int64) (m_primes_count : Int32) (m_primes_primeA m_primes_primeB : Nat → Int32) (m_primes_found_a m_primes_found_b : Int64) (m_rings_foundA m_rings_foundB m_rings_all m_rings_mostOfOneRow m_letters_count : Int32) (m_letters_bytes : Nat → Int32) (m_one_a m_one_b m_two_a m_two_b m_three_a m_three_b m_four_a m_four_b m_out_a m_out_b m_spare_a m_spare_b : Int64) (m_marks : Nat → Int32) (x : Int32 × Int32 × (Nat → Int32)) (hf : f_X10_feed N v1 v2 v3 v4 v5 m_tape_size m_tape_bytes = some x) : kx_MI l yX10_feed cX10_feed 6 (some .int) 1 22 D T [.ref (h 0), .int v1, .int v2, .int v3, .int v4, .int v5] (wC T h m_drawers_full m_drawers_kept m_drawers_partA m_drawers_partB m_drawers_keptA m_drawers_keptB m_drawers_keptFull m_tape_size m_tape_plain m_tape_omegas m_tape_end m_tape_place m_tape_plainTold m_tape_omegasTold m_tape_bytes m_euclid_count m_euclid_last_a m_euclid_last_b m_euclid_lastOfFirst_a m_euclid_lastOfFirst_b m_euclid_lastOfSecond_a m_euclid_lastOfSecond_b m_euclid_next_a m_euclid_next_b m_euclid_nextOfFirst_a m_euclid_nextOfFirst_b m_euclid_nextOfSecond_a m_euclid_nextOfSecond_b m_euclid_q_a m_euclid_q_b m_euclid_quotientA m_euclid_quotientB m_modulus_step m_modulus_width m_modulus_slant m_modulus_square_a m_modulus_square_b m_factors_count m_factors_threes m_factors_unit m_factors_primeA m_factors_primeB m_factors_norms m_factors_euclid_count m_factors_euclid_last_a m_factors_euclid_last_b m_factors_euclid_lastOfFirst_a m_factors_euclid_lastOfFirst_b m_factors_euclid_lastOfSecond_a m_factors_euclid_lastOfSecond_b m_factors_euclid_next_a m_factors_euclid_next_b m_factors_euclid_nextOfFirst_a m_factors_euclid_nextOfFirst_b m_factors_euclid_nextOfSecond_a m_factors_euclid_nextOfSecond_b m_factors_euclid_q_a m_factors_euclid_q_b m_factors_euclid_quotientA m_factors_euclid_quotientB m_factors_left_a m_factors_left_b m_factors_found_a m_factors_found_b m_factors_product_a m_factors_product_b m_primes_count m_primes_primeA m_primes_primeB m_primes_found_a m_primes_found_b m_rings_foundA m_rings_foundB m_rings_all m_rings_mostOfOneRow m_letters_count m_letters_bytes m_one_a m_one_b m_two_a m_two_b m_three_a m_three_b m_four_a m_four_b m_out_a m_out_b m_spare_a m_spare_b m_marks) (wC T h m_drawers_full m_drawers_kept m_drawers_partA m_drawers_partB m_drawers_keptA m_drawers_keptB m_drawers_keptFull x.2.1 m_tape_plain m_tape_omegas m_tape_end m_tape_place m_tape_plainTold m_tape_omegasTold x.2.2 m_euclid_count m_euclid_last_a m_euclid_last_b m_euclid_lastOfFirst_a m_euclid_lastOfFirst_b m_euclid_lastOfSecond_a m_euclid_lastOfSecond_b m_euclid_next_a m_euclid_next_b m_euclid_nextOfFirst_a m_euclid_nextOfFirst_b m_euclid_nextOfSecond_a m_euclid_nextOfSecond_b m_euclid_q_a m_euclid_q_b m_euclid_quotientA m_euclid_quotientB m_modulus_step m_modulus_width m_modulus_slant m_modulus_square_a m_modulus_square_b m_factors_count m_factors_threes m_factors_unit m_factors_primeA m_factors_primeB m_factors_norms m_factors_euclid_count m_factors_euclid_last_a m_factors_euclid_last_b m_factors_euclid_lastOfFirst_a m_factors_euclid_lastOfFirst_b m_factors_euclid_lastOfSecond_a m_factors_euclid_lastOfSecond_b m_factors_euclid_next_a m_factors_euclid_next_b m_factors_euclid_nextOfFirst_a m_factors_euclid_nextOfFirst_b m_factors_euclid_nextOfSecond_a m_factors_euclid_nextOfSecond_b m_factors_euclid_q_a m_factors_euclid_q_b m_factors_euclid_quotientA m_factors_euclid_quotientB m_factors_left_a m_factors_left_b m_factors_found_a m_factors_found_b m_factors_product_a m_factors_product_b m_primes_count m_primes_primeA m_primes_primeB m_primes_found_a m_primes_found_b m_rings_foundA m_rings_foundB m_rings_all m_rings_mostOfOneRow m_letters_count m_letters_bytes m_one_a m_one_b m_two_a m_two_b m_three_a m_three_b m_four_a m_four_b m_out_a m_out_b m_spare_a m_spare_b m_marks) x.1 := by
  refine kx_ofMI RX10 rfl (plainFor_of_name (x := yX10_feed) kpn_X10) rfl ?_
  intro E A H ls _ C X R hl
  have hl : lv_has ls 6 [(0, .ref (h 0)), (1, .int v1), (2, .int v2), (3, .int v3), (4, .int v4), (5, .int v5)] := hl
  rw [f_X10_feed] at hf
  refine x_aload_n 1 C dX10_feed_0 hl 0 rfl rfl ?_
  refine x_get 4 C dX10_feed_1 X kf_X10_21 0 rfl rfl rfl ?_
  refine x_bipush 6 C dX10_feed_4 (20 : Int32) kv_bipush_20 rfl ?_
  obtain ⟨y6, hy6, hf⟩ := kx_bind hf
  refine x_callVi 9 C dX10_feed_6 X hl kl_X10_93 (c_X8_hasRoomFor E.2.1 D T (h 7) (h 8) (20 : Int32) m_tape_size m_tape_plain m_tape_omegas m_tape_end m_tape_place m_tape_plainTold m_tape_omegasTold y6 hy6) rfl rfl [] rfl rfl rfl rfl rfl cb_0 rfl (fun H locs X => ?_)
  refine x_if_ne 14 12 C dX10_feed_9 rfl rfl hf (fun hf => ?_) (fun hf => ?_)
  · refine x_aload_n 15 C dX10_feed_14 hl 0 rfl rfl ?_
    refine x_get 18 C dX10_feed_15 X kf_X10_21 0 rfl rfl rfl ?_
    refine x_iload_n 19 C dX10_feed_18 hl 1 rfl rfl ?_
    obtain ⟨y19, hy19, hf⟩ := kx_bind hf
    refine x_callVv 22 C dX10_feed_19 X hl kl_X10_97 (c_X8_addBytesOf E.2.1 D T (h 7) (h 8) N v1 m_tape_size m_tape_plain m_tape_omegas m_tape_end m_tape_place m_tape_plainTold m_tape_omegasTold m_tape_bytes y19 hy19) rfl rfl [] rfl rfl rfl rfl rfl cb_1 rfl (fun H locs X => ?_)
    refine x_aload_n 23 C dX10_feed_22 hl 0 rfl rfl ?_
    refine x_get 26 C dX10_feed_23 X kf_X10_21 0 rfl rfl rfl ?_
    refine x_iload_n 27 C dX10_feed_26 hl 2 rfl rfl ?_
    obtain ⟨y27, hy27, hf⟩ := kx_bind hf
    refine x_callVv 30 C dX10_feed_27 X hl kl_X10_97 (c_X8_addBytesOf E.2.1 D T (h 7) (h 8) N v2 y19.1 m_tape_plain m_tape_omegas m_tape_end m_tape_place m_tape_plainTold m_tape_omegasTold y19.2 y27 hy27) rfl rfl [] rfl rfl rfl rfl rfl cb_1 rfl (fun H locs X => ?_)
    refine x_aload_n 31 C dX10_feed_30 hl 0 rfl rfl ?_
    refine x_get 34 C dX10_feed_31 X kf_X10_21 0 rfl rfl rfl ?_
    refine x_iload_n 35 C dX10_feed_34 hl 3 rfl rfl ?_
    obtain ⟨y35, hy35, hf⟩ := kx_bind hf
    refine x_callVv 38 C dX10_feed_35 X hl kl_X10_97 (c_X8_addBytesOf E.2.1 D T (h 7) (h 8) N v3 y27.1 m_tape_plain m_tape_omegas m_tape_end m_tape_place m_tape_plainTold m_tape_omegasTold y27.2 y35 hy35) rfl rfl [] rfl rfl rfl rfl rfl cb_1 rfl (fun H locs X => ?_)
    refine x_aload_n 39 C dX10_feed_38 hl 0 rfl rfl ?_
    refine x_get 42 C dX10_feed_39 X kf_X10_21 0 rfl rfl rfl ?_
    refine x_iload 44 C dX10_feed_42 hl 4 rfl rfl ?_
    obtain ⟨y44, hy44, hf⟩ := kx_bind hf
    refine x_callVv 47 C dX10_feed_44 X hl kl_X10_97 (c_X8_addBytesOf E.2.1 D T (h 7) (h 8) N v4 y35.1 m_tape_plain m_tape_omegas m_tape_end m_tape_place m_tape_plainTold m_tape_omegasTold y35.2 y44 hy44) rfl rfl [] rfl rfl rfl rfl rfl cb_1 rfl (fun H locs X => ?_)
    refine x_aload_n 48 C dX10_feed_47 hl 0 rfl rfl ?_
    refine x_get 51 C dX10_feed_48 X kf_X10_21 0 rfl rfl rfl ?_
    refine x_iload 53 C dX10_feed_51 hl 5 rfl rfl ?_
    obtain ⟨y53, hy53, hf⟩ := kx_bind hf
    refine x_callVv 56 C dX10_feed_53 X hl kl_X10_97 (c_X8_addBytesOf E.2.1 D T (h 7) (h 8) N v5 y44.1 m_tape_plain m_tape_omegas m_tape_end m_tape_place m_tape_plainTold m_tape_omegasTold y44.2 y53 hy53) rfl rfl [] rfl rfl rfl rfl rfl cb_1 rfl (fun H locs X => ?_)
    refine x_aload_n 57 C dX10_feed_56 hl 0 rfl rfl ?_
    refine x_get 60 C dX10_feed_57 X kf_X10_21 0 rfl rfl rfl ?_
    refine x_get 63 C dX10_feed_60 X kf_X10_101 7 rfl rfl rfl ?_
    obtain rfl := Option.some.inj hf
    exact R _ _ _ _ X dX10_feed_63
  refine x_iconst 13 C dX10_feed_12 (-1 : Int32) kv_iconst_m1 rfl ?_
  obtain rfl := Option.some.inj hf
  exact R _ _ _ _ X dX10_feed_13
set_option maxHeartbeats 4000000 in
set_option maxRecDepth 100000 in
theorem w_X11_typed4_2 {E : KE} {A : Nat → Prop} {D : va_G} {T : KT} (h : Nat → Nat) (C : kx_C E cX11_typed4 3 none RX11 0 0 D T) (N : Nat) (x : Int32 × (Nat → Int32)) (m_states : Int32) (m_ra m_rb : Int64) (m_threes m_primes m_ones m_unit : Int32) (m_allParts m_allNorms m_allClasses : Int64) (m_odd : Int32) (m_boxWide m_boxHigh m_boxStep : Int64) (m_partingMany : Int32) (m_qa m_qb m_la m_lb m_sa m_sb m_ta m_tb : Int64) (m_listed m_tells m_wanted m_found : Int32) (m_bits : Int64) (m_power2 m_rings m_ringA m_ringB m_seedNow : Int32) (m_has m_keptHas m_first m_second m_keptFirst m_keptSecond m_pa m_pb m_pNorm m_cubed m_isOpen m_signs m_often m_la0 m_lb0 : Nat → Int32) (R : kx_RV E cX11_typed4 D A (wM T h x.1 m_states m_ra m_rb m_threes m_primes m_ones m_unit m_allParts m_allNorms m_allClasses m_odd m_boxWide m_boxHigh m_boxStep m_partingMany m_qa m_qb m_la m_lb m_sa m_sb m_ta m_tb m_listed m_tells m_wanted m_found m_bits m_power2 m_rings m_ringA m_ringB m_seedNow x.2 m_has m_keptHas m_first m_second m_keptFirst m_keptSecond m_pa m_pb m_pNorm m_cubed m_isOpen m_signs m_often m_la0 m_lb0)) : ∀ (k : Nat), ∀ (m_taped : Int32) (m_tape : Nat → Int32) (v1 v2 : Int32) (H : Heap) (locs : List Loc) (ls : Array Slot), kx_H E D A H locs (wM T h m_taped m_states m_ra m_rb m_threes m_primes m_ones m_unit m_allParts m_allNorms m_allClasses m_odd m_boxWide m_boxHigh m_boxStep m_partingMany m_qa m_qb m_la m_lb m_sa m_sb m_ta m_tb m_listed m_tells m_wanted m_found m_bits m_power2 m_rings m_ringA m_ringB m_seedNow m_tape m_has m_keptHas m_first m_second m_keptFirst m_keptSecond m_pa m_pb m_pNorm m_cubed m_isOpen m_signs m_often m_la0 m_lb0) → lv_has ls 3 [(0, .ref (h 0)), (1, .int v1), (2, .int v2)] → f_X11_typed4_2 N k v1 v2 m_taped m_tape = some x → kx_W E H locs 2 ls [] := by
  intro k
  induction k with
  | zero =>
    intro m_taped m_tape v1 v2 H locs ls X hl hf
    cases (show (none : Option (Int32 × (Nat → Int32))) = some x from hf)
  | succ k ih =>
    intro m_taped m_tape v1 v2 H locs ls X hl hf
    rw [f_X11_typed4_2] at hf
    refine x_iload_n 3 C dX11_typed4_2 hl 2 rfl rfl ?_
    refine x_if_lt 38 6 C dX11_typed4_3 rfl rfl hf (fun hf => ?_) (fun hf => ?_)
    · obtain rfl := Option.some.inj hf
      exact R _ _ _ _ X dX11_typed4_38
    refine x_aload_n 7 C dX11_typed4_6 hl 0 rfl rfl ?_
    refine x_get 10 C dX11_typed4_7 X kf_X11_7 0 rfl rfl rfl ?_
    refine x_aload_n 11 C dX11_typed4_10 hl 0 rfl rfl ?_
    refine x_get 14 C dX11_typed4_11 X kf_X11_67 0 rfl rfl rfl ?_
    refine x_iload_n 15 C dX11_typed4_14 hl 1 rfl rfl ?_
    refine x_bipush 17 C dX11_typed4_15 (8 : Int32) kv_bipush_8 rfl ?_
    refine x_iload_n 18 C dX11_typed4_17 hl 2 rfl rfl ?_
    refine x_imul 19 C dX11_typed4_18 rfl ?_
    refine x_ishr 20 C dX11_typed4_19 rfl ?_
    refine x_i2b 21 C dX11_typed4_20 rfl ?_
    refine x_bast 22 C dX11_typed4_21 X 1 rfl (wM T h m_taped m_states m_ra m_rb m_threes m_primes m_ones m_unit m_allParts m_allNorms m_allClasses m_odd m_boxWide m_boxHigh m_boxStep m_partingMany m_qa m_qb m_la m_lb m_sa m_sb m_ta m_tb m_listed m_tells m_wanted m_found m_bits m_power2 m_rings m_ringA m_ringB m_seedNow (upd m_tape (m_taped).toNatClampNeg (((v1 >>> (((8 : Int32) * v2) &&& 31))).toInt8.toInt32).toInt8.toInt32) m_has m_keptHas m_first m_second m_keptFirst m_keptSecond m_pa m_pb m_pNorm m_cubed m_isOpen m_signs m_often m_la0 m_lb0) rfl hf rfl (fun H locs X hf => ?_)
    refine x_aload_n 23 C dX11_typed4_22 hl 0 rfl rfl ?_
    refine x_aload_n 24 C dX11_typed4_23 hl 0 rfl rfl ?_
    refine x_get 27 C dX11_typed4_24 X kf_X11_67 0 rfl rfl rfl ?_
    refine x_iconst 28 C dX11_typed4_27 (1 : Int32) kv_iconst_1 rfl ?_
    refine x_iadd 29 C dX11_typed4_28 rfl ?_
    refine x_put 32 C dX11_typed4_29 X kp_X11_67 0 rfl rfl rfl rfl (wM T h (m_taped + (1 : Int32)) m_states m_ra m_rb m_threes m_primes m_ones m_unit m_allParts m_allNorms m_allClasses m_odd m_boxWide m_boxHigh m_boxStep m_partingMany m_qa m_qb m_la m_lb m_sa m_sb m_ta m_tb m_listed m_tells m_wanted m_found m_bits m_power2 m_rings m_ringA m_ringB m_seedNow (upd m_tape (m_taped).toNatClampNeg (((v1 >>> (((8 : Int32) * v2) &&& 31))).toInt8.toInt32).toInt8.toInt32) m_has m_keptHas m_first m_second m_keptFirst m_keptSecond m_pa m_pb m_pNorm m_cubed m_isOpen m_signs m_often m_la0 m_lb0) rfl rfl (fun H locs X => ?_)
    refine x_iinc 35 C dX11_typed4_32 (-1 : Int32) kv_iconst_m1 [(2, .int (v2 + (-1 : Int32))), (0, .ref (h 0)), (1, .int v1)] hl 2 rfl rfl rfl rfl (fun ls hl => ?_)
    refine x_goto 2 C dX11_typed4_35 rfl ?_
    exact ih (m_taped + (1 : Int32)) (upd m_tape (m_taped).toNatClampNeg (((v1 >>> (((8 : Int32) * v2) &&& 31))).toInt8.toInt32).toInt8.toInt32) v1 (v2 + (-1 : Int32)) _ _ _ X (lv_sub hl [1, 2, 0] rfl) hf
set_option maxHeartbeats 4000000 in
set_option maxRecDepth 100000 in
theorem c_X11_typed4 (l : Launch) (D : va_G) (T : KT) (h : Nat → Nat) (N : Nat) (v1 : Int32) (m_taped m_states : Int32) (m_ra m_rb : Int64) (m_threes m_primes m_ones m_unit : Int32) (m_allParts m_allNorms m_allClasses : Int64) (m_odd : Int32) (m_boxWide m_boxHigh m_boxStep : Int64) (m_partingMany : Int32) (m_qa m_qb m_la m_lb m_sa m_sb m_ta m_tb : Int64) (m_listed m_tells m_wanted m_found : Int32) (m_bits : Int64) (m_power2 m_rings m_ringA m_ringB m_seedNow : Int32) (m_tape m_has m_keptHas m_first m_second m_keptFirst m_keptSecond m_pa m_pb m_pNorm m_cubed m_isOpen m_signs m_often m_la0 m_lb0 : Nat → Int32) (x : Int32 × (Nat → Int32)) (hf : f_X11_typed4 N v1 m_taped m_tape = some x) : kx_MV l yX11_typed4 cX11_typed4 3 none 0 0 D T [.ref (h 0), .int v1] (wM T h m_taped m_states m_ra m_rb m_threes m_primes m_ones m_unit m_allParts m_allNorms m_allClasses m_odd m_boxWide m_boxHigh m_boxStep m_partingMany m_qa m_qb m_la m_lb m_sa m_sb m_ta m_tb m_listed m_tells m_wanted m_found m_bits m_power2 m_rings m_ringA m_ringB m_seedNow m_tape m_has m_keptHas m_first m_second m_keptFirst m_keptSecond m_pa m_pb m_pNorm m_cubed m_isOpen m_signs m_often m_la0 m_lb0) (wM T h x.1 m_states m_ra m_rb m_threes m_primes m_ones m_unit m_allParts m_allNorms m_allClasses m_odd m_boxWide m_boxHigh m_boxStep m_partingMany m_qa m_qb m_la m_lb m_sa m_sb m_ta m_tb m_listed m_tells m_wanted m_found m_bits m_power2 m_rings m_ringA m_ringB m_seedNow x.2 m_has m_keptHas m_first m_second m_keptFirst m_keptSecond m_pa m_pb m_pNorm m_cubed m_isOpen m_signs m_often m_la0 m_lb0) := by
  refine kx_ofMV RX11 rfl (plainFor_of_name (x := yX11_typed4) kpn_X11) rfl ?_
  intro E A H ls _ C X R hl
  have hl : lv_has ls 3 [(0, .ref (h 0)), (1, .int v1)] := hl
  rw [f_X11_typed4] at hf
  refine x_iconst 1 C dX11_typed4_0 (3 : Int32) kv_iconst_3 rfl ?_
  refine x_istore_n 2 C dX11_typed4_1 [(2, .int (3 : Int32)), (0, .ref (h 0)), (1, .int v1)] hl rfl rfl rfl (fun ls hl => ?_)
  exact w_X11_typed4_2 h C N x m_states m_ra m_rb m_threes m_primes m_ones m_unit m_allParts m_allNorms m_allClasses m_odd m_boxWide m_boxHigh m_boxStep m_partingMany m_qa m_qb m_la m_lb m_sa m_sb m_ta m_tb m_listed m_tells m_wanted m_found m_bits m_power2 m_rings m_ringA m_ringB m_seedNow m_has m_keptHas m_first m_second m_keptFirst m_keptSecond m_pa m_pb m_pNorm m_cubed m_isOpen m_signs m_often m_la0 m_lb0 R  N m_taped m_tape v1 (3 : Int32) _ _ _ X (lv_sub hl [1, 2, 0] rfl) hf
set_option maxHeartbeats 4000000 in
set_option maxRecDepth 100000 in
theorem c_X11_feed (l : Launch) (D : va_G) (T : KT) (h : Nat → Nat) (N : Nat) (v1 v2 v3 v4 v5 : Int32) (m_taped m_states : Int32) (m_ra m_rb : Int64) (m_threes m_primes m_ones m_unit : Int32) (m_allParts m_allNorms m_allClasses : Int64) (m_odd : Int32) (m_boxWide m_boxHigh m_boxStep : Int64) (m_partingMany : Int32) (m_qa m_qb m_la m_lb m_sa m_sb m_ta m_tb : Int64) (m_listed m_tells m_wanted m_found : Int32) (m_bits : Int64) (m_power2 m_rings m_ringA m_ringB m_seedNow : Int32) (m_tape m_has m_keptHas m_first m_second m_keptFirst m_keptSecond m_pa m_pb m_pNorm m_cubed m_isOpen m_signs m_often m_la0 m_lb0 : Nat → Int32) (x : Int32 × Int32 × (Nat → Int32)) (hf : f_X11_feed N v1 v2 v3 v4 v5 m_taped m_tape = some x) : kx_MI l yX11_feed cX11_feed 6 (some .int) 1 22 D T [.ref (h 0), .int v1, .int v2, .int v3, .int v4, .int v5] (wM T h m_taped m_states m_ra m_rb m_threes m_primes m_ones m_unit m_allParts m_allNorms m_allClasses m_odd m_boxWide m_boxHigh m_boxStep m_partingMany m_qa m_qb m_la m_lb m_sa m_sb m_ta m_tb m_listed m_tells m_wanted m_found m_bits m_power2 m_rings m_ringA m_ringB m_seedNow m_tape m_has m_keptHas m_first m_second m_keptFirst m_keptSecond m_pa m_pb m_pNorm m_cubed m_isOpen m_signs m_often m_la0 m_lb0) (wM T h x.2.1 m_states m_ra m_rb m_threes m_primes m_ones m_unit m_allParts m_allNorms m_allClasses m_odd m_boxWide m_boxHigh m_boxStep m_partingMany m_qa m_qb m_la m_lb m_sa m_sb m_ta m_tb m_listed m_tells m_wanted m_found m_bits m_power2 m_rings m_ringA m_ringB m_seedNow x.2.2 m_has m_keptHas m_first m_second m_keptFirst m_keptSecond m_pa m_pb m_pNorm m_cubed m_isOpen m_signs m_often m_la0 m_lb0) x.1 := by
  refine kx_ofMI RX11 rfl (plainFor_of_name (x := yX11_feed) kpn_X11) rfl ?_
  intro E A H ls _ C X R hl
  have hl : lv_has ls 6 [(0, .ref (h 0)), (1, .int v1), (2, .int v2), (3, .int v3), (4, .int v4), (5, .int v5)] := hl
  rw [f_X11_feed] at hf
  refine x_aload_n 1 C dX11_feed_0 hl 0 rfl rfl ?_
  refine x_get 4 C dX11_feed_1 X kf_X11_67 0 rfl rfl rfl ?_
  refine x_bipush 6 C dX11_feed_4 (20 : Int32) kv_bipush_20 rfl ?_
  refine x_iadd 7 C dX11_feed_6 rfl ?_
  refine x_bipush 9 C dX11_feed_7 (80 : Int32) kv_bipush_80 rfl ?_
  refine x_icmp_le 14 12 C dX11_feed_9 rfl rfl hf (fun hf => ?_) (fun hf => ?_)
  · refine x_aload_n 15 C dX11_feed_14 hl 0 rfl rfl ?_
    refine x_iload_n 16 C dX11_feed_15 hl 1 rfl rfl ?_
    obtain ⟨y16, hy16, hf⟩ := kx_bind hf
    refine x_callVv0 19 C dX11_feed_16 X hl kl_X11_71 (c_X11_typed4 E.2.1 D T h N v1 m_taped m_states m_ra m_rb m_threes m_primes m_ones m_unit m_allParts m_allNorms m_allClasses m_odd m_boxWide m_boxHigh m_boxStep m_partingMany m_qa m_qb m_la m_lb m_sa m_sb m_ta m_tb m_listed m_tells m_wanted m_found m_bits m_power2 m_rings m_ringA m_ringB m_seedNow m_tape m_has m_keptHas m_first m_second m_keptFirst m_keptSecond m_pa m_pb m_pNorm m_cubed m_isOpen m_signs m_often m_la0 m_lb0 y16 hy16) rfl rfl [] rfl rfl rfl rfl rfl rfl (fun H locs X => ?_)
    refine x_aload_n 20 C dX11_feed_19 hl 0 rfl rfl ?_
    refine x_iload_n 21 C dX11_feed_20 hl 2 rfl rfl ?_
    obtain ⟨y21, hy21, hf⟩ := kx_bind hf
    refine x_callVv0 24 C dX11_feed_21 X hl kl_X11_71 (c_X11_typed4 E.2.1 D T h N v2 y16.1 m_states m_ra m_rb m_threes m_primes m_ones m_unit m_allParts m_allNorms m_allClasses m_odd m_boxWide m_boxHigh m_boxStep m_partingMany m_qa m_qb m_la m_lb m_sa m_sb m_ta m_tb m_listed m_tells m_wanted m_found m_bits m_power2 m_rings m_ringA m_ringB m_seedNow y16.2 m_has m_keptHas m_first m_second m_keptFirst m_keptSecond m_pa m_pb m_pNorm m_cubed m_isOpen m_signs m_often m_la0 m_lb0 y21 hy21) rfl rfl [] rfl rfl rfl rfl rfl rfl (fun H locs X => ?_)
    refine x_aload_n 25 C dX11_feed_24 hl 0 rfl rfl ?_
    refine x_iload_n 26 C dX11_feed_25 hl 3 rfl rfl ?_
    obtain ⟨y26, hy26, hf⟩ := kx_bind hf
    refine x_callVv0 29 C dX11_feed_26 X hl kl_X11_71 (c_X11_typed4 E.2.1 D T h N v3 y21.1 m_states m_ra m_rb m_threes m_primes m_ones m_unit m_allParts m_allNorms m_allClasses m_odd m_boxWide m_boxHigh m_boxStep m_partingMany m_qa m_qb m_la m_lb m_sa m_sb m_ta m_tb m_listed m_tells m_wanted m_found m_bits m_power2 m_rings m_ringA m_ringB m_seedNow y21.2 m_has m_keptHas m_first m_second m_keptFirst m_keptSecond m_pa m_pb m_pNorm m_cubed m_isOpen m_signs m_often m_la0 m_lb0 y26 hy26) rfl rfl [] rfl rfl rfl rfl rfl rfl (fun H locs X => ?_)
    refine x_aload_n 30 C dX11_feed_29 hl 0 rfl rfl ?_
    refine x_iload 32 C dX11_feed_30 hl 4 rfl rfl ?_
    obtain ⟨y32, hy32, hf⟩ := kx_bind hf
    refine x_callVv0 35 C dX11_feed_32 X hl kl_X11_71 (c_X11_typed4 E.2.1 D T h N v4 y26.1 m_states m_ra m_rb m_threes m_primes m_ones m_unit m_allParts m_allNorms m_allClasses m_odd m_boxWide m_boxHigh m_boxStep m_partingMany m_qa m_qb m_la m_lb m_sa m_sb m_ta m_tb m_listed m_tells m_wanted m_found m_bits m_power2 m_rings m_ringA m_ringB m_seedNow y26.2 m_has m_keptHas m_first m_second m_keptFirst m_keptSecond m_pa m_pb m_pNorm m_cubed m_isOpen m_signs m_often m_la0 m_lb0 y32 hy32) rfl rfl [] rfl rfl rfl rfl rfl rfl (fun H locs X => ?_)
    refine x_aload_n 36 C dX11_feed_35 hl 0 rfl rfl ?_
    refine x_iload 38 C dX11_feed_36 hl 5 rfl rfl ?_
    obtain ⟨y38, hy38, hf⟩ := kx_bind hf
    refine x_callVv0 41 C dX11_feed_38 X hl kl_X11_71 (c_X11_typed4 E.2.1 D T h N v5 y32.1 m_states m_ra m_rb m_threes m_primes m_ones m_unit m_allParts m_allNorms m_allClasses m_odd m_boxWide m_boxHigh m_boxStep m_partingMany m_qa m_qb m_la m_lb m_sa m_sb m_ta m_tb m_listed m_tells m_wanted m_found m_bits m_power2 m_rings m_ringA m_ringB m_seedNow y32.2 m_has m_keptHas m_first m_second m_keptFirst m_keptSecond m_pa m_pb m_pNorm m_cubed m_isOpen m_signs m_often m_la0 m_lb0 y38 hy38) rfl rfl [] rfl rfl rfl rfl rfl rfl (fun H locs X => ?_)
    refine x_aload_n 42 C dX11_feed_41 hl 0 rfl rfl ?_
    refine x_get 45 C dX11_feed_42 X kf_X11_67 0 rfl rfl rfl ?_
    obtain rfl := Option.some.inj hf
    exact R _ _ _ _ X dX11_feed_45
  refine x_iconst 13 C dX11_feed_12 (-1 : Int32) kv_iconst_m1 rfl ?_
  obtain rfl := Option.some.inj hf
  exact R _ _ _ _ X dX11_feed_13
set_option maxHeartbeats 4000000 in
set_option maxRecDepth 100000 in
theorem c_X0_isOne (l : Launch) (D : va_G) (T : KT)  (v0 : Int32)  (x : Int32) (hf : f_X0_isOne v0 = some x) : kx_MI l yX0_isOne cX0_isOne 1 (some .boolean) 0 0 D T [.int v0] (w4_ T  ) (w4_ T  ) x := by
  refine kx_ofMZ RX0 rfl (plainFor_of_name (x := yX0_isOne) kpn_X0) rfl ?_
  intro E A H ls _ C X R hl
  have hl : lv_has ls 1 [(0, .int v0)] := hl
  rw [f_X0_isOne] at hf
  refine x_iload_n 1 C dX0_isOne_0 hl 0 rfl rfl ?_
  refine x_if_lt 14 4 C dX0_isOne_1 rfl rfl hf (fun hf => ?_) (fun hf => ?_)
  · refine x_iconst 15 C dX0_isOne_14 (0 : Int32) kv_iconst_0 rfl ?_
    obtain rfl := Option.some.inj hf
    exact R _ _ _ _ X kb_0 dX0_isOne_15
  refine x_iload_n 5 C dX0_isOne_4 hl 0 rfl rfl ?_
  refine x_bipush 7 C dX0_isOne_5 (8 : Int32) kv_bipush_8 rfl ?_
  refine x_icmp_ge 14 10 C dX0_isOne_7 rfl rfl hf (fun hf => ?_) (fun hf => ?_)
  · refine x_iconst 15 C dX0_isOne_14 (0 : Int32) kv_iconst_0 rfl ?_
    obtain rfl := Option.some.inj hf
    exact R _ _ _ _ X kb_0 dX0_isOne_15
  refine x_iconst 11 C dX0_isOne_10 (1 : Int32) kv_iconst_1 rfl ?_
  refine x_goto 15 C dX0_isOne_11 rfl ?_
  obtain rfl := Option.some.inj hf
  exact R _ _ _ _ X kb_1 dX0_isOne_15
set_option maxHeartbeats 4000000 in
set_option maxRecDepth 100000 in
theorem c_X8_tell (l : Launch) (D : va_G) (T : KT) (h0 h1 : Nat) (v1 v2 : Int32) (m_size m_plain m_omegas m_end m_place m_plainTold m_omegasTold : Int32) (x : Int32 × Int32 × Int32 × Int32) (hf : f_X8_tell v1 v2 m_plain m_omegas m_plainTold m_omegasTold = some x) : kx_MV l yX8_tell cX8_tell 3 none 0 0 D T [.ref h0, .int v1, .int v2] (w2_X8 T h0 h1 m_size m_plain m_omegas m_end m_place m_plainTold m_omegasTold) (w2_X8 T h0 h1 m_size x.1 x.2.1 m_end m_place x.2.2.1 x.2.2.2) := by
  refine kx_ofMV RX8 rfl (plainFor_of_name (x := yX8_tell) kpn_X8) rfl ?_
  intro E A H ls _ C X R hl
  have hl : lv_has ls 3 [(0, .ref h0), (1, .int v1), (2, .int v2)] := hl
  rw [f_X8_tell] at hf
  refine x_iload_n 1 C dX8_tell_0 hl 1 rfl rfl ?_
  refine x_if_eq 17 4 C dX8_tell_1 rfl rfl hf (fun hf => ?_) (fun hf => ?_)
  · refine x_aload_n 18 C dX8_tell_17 hl 0 rfl rfl ?_
    refine x_iload_n 19 C dX8_tell_18 hl 2 rfl rfl ?_
    refine x_put 22 C dX8_tell_19 X kp_X8_23 0 rfl rfl rfl rfl (w2_X8 T h0 h1 m_size v2 m_omegas m_end m_place m_plainTold m_omegasTold) rfl rfl (fun H locs X => ?_)
    refine x_aload_n 23 C dX8_tell_22 hl 0 rfl rfl ?_
    refine x_iconst 24 C dX8_tell_23 (1 : Int32) kv_iconst_1 rfl ?_
    refine x_put 27 C dX8_tell_24 X kp_X8_29 0 rfl rfl rfl rfl (w2_X8 T h0 h1 m_size v2 m_omegas m_end m_place (1 : Int32) m_omegasTold) rfl rfl (fun H locs X => ?_)
    obtain rfl := Option.some.inj hf
    exact R _ _ _ _ X dX8_tell_27
  refine x_aload_n 5 C dX8_tell_4 hl 0 rfl rfl ?_
  refine x_iload_n 6 C dX8_tell_5 hl 2 rfl rfl ?_
  refine x_put 9 C dX8_tell_6 X kp_X8_26 0 rfl rfl rfl rfl (w2_X8 T h0 h1 m_size m_plain v2 m_end m_place m_plainTold m_omegasTold) rfl rfl (fun H locs X => ?_)
  refine x_aload_n 10 C dX8_tell_9 hl 0 rfl rfl ?_
  refine x_iconst 11 C dX8_tell_10 (1 : Int32) kv_iconst_1 rfl ?_
  refine x_put 14 C dX8_tell_11 X kp_X8_33 0 rfl rfl rfl rfl (w2_X8 T h0 h1 m_size m_plain v2 m_end m_place m_plainTold (1 : Int32)) rfl rfl (fun H locs X => ?_)
  refine x_goto 27 C dX8_tell_14 rfl ?_
  obtain rfl := Option.some.inj hf
  exact R _ _ _ _ X dX8_tell_27
set_option maxHeartbeats 4000000 in
set_option maxRecDepth 100000 in
theorem c_X8_fault (l : Launch) (D : va_G) (T : KT)  (v0 v1 : Int32)  (x : Int32) (hf : f_X8_fault v0 v1 = some x) : kx_MI l yX8_fault cX8_fault 2 (some .int) 0 0 D T [.int v0, .int v1] (w4_ T  ) (w4_ T  ) x := by
  refine kx_ofMI RX8 rfl (plainFor_of_name (x := yX8_fault) kpn_X8) rfl ?_
  intro E A H ls _ C X R hl
  have hl : lv_has ls 2 [(0, .int v0), (1, .int v1)] := hl
  rw [f_X8_fault] at hf
  refine x_sipush 3 C dX8_fault_0 (-1000 : Int32) kv_sipush_m1000 rfl ?_
  refine x_iload_n 4 C dX8_fault_3 hl 0 rfl rfl ?_
  refine x_imul 5 C dX8_fault_4 rfl ?_
  refine x_iload_n 6 C dX8_fault_5 hl 1 rfl rfl ?_
  refine x_isub 7 C dX8_fault_6 rfl ?_
  obtain rfl := Option.some.inj hf
  exact R _ _ _ _ X dX8_fault_7
set_option maxHeartbeats 4000000 in
set_option maxRecDepth 100000 in
theorem c_X8_here (l : Launch) (D : va_G) (T : KT) (h0 h1 : Nat)  (m_size m_plain m_omegas m_end m_place m_plainTold m_omegasTold : Int32) (m_bytes : Nat → Int32) (x : Int32) (hf : f_X8_here m_end m_place m_bytes = some x) : kx_MI l yX8_here cX8_here 1 (some .int) 0 0 D T [.ref h0] (w1_X8 T h0 h1 m_size m_plain m_omegas m_end m_place m_plainTold m_omegasTold m_bytes) (w1_X8 T h0 h1 m_size m_plain m_omegas m_end m_place m_plainTold m_omegasTold m_bytes) x := by
  refine kx_ofMI RX8 rfl (plainFor_of_name (x := yX8_here) kpn_X8) rfl ?_
  intro E A H ls _ C X R hl
  have hl : lv_has ls 1 [(0, .ref h0)] := hl
  rw [f_X8_here] at hf
  refine x_aload_n 1 C dX8_here_0 hl 0 rfl rfl ?_
  refine x_get 4 C dX8_here_1 X kf_X8_20 0 rfl rfl rfl ?_
  refine x_if_lt 39 7 C dX8_here_4 rfl rfl hf (fun hf => ?_) (fun hf => ?_)
  · refine x_iconst 40 C dX8_here_39 (-1 : Int32) kv_iconst_m1 rfl ?_
    obtain rfl := Option.some.inj hf
    exact R _ _ _ _ X dX8_here_40
  refine x_aload_n 8 C dX8_here_7 hl 0 rfl rfl ?_
  refine x_get 11 C dX8_here_8 X kf_X8_20 0 rfl rfl rfl ?_
  refine x_aload_n 12 C dX8_here_11 hl 0 rfl rfl ?_
  refine x_get 15 C dX8_here_12 X kf_X8_17 0 rfl rfl rfl ?_
  refine x_icmp_ge 39 18 C dX8_here_15 rfl rfl hf (fun hf => ?_) (fun hf => ?_)
  · refine x_iconst 40 C dX8_here_39 (-1 : Int32) kv_iconst_m1 rfl ?_
    obtain rfl := Option.some.inj hf
    exact R _ _ _ _ X dX8_here_40
  refine x_aload_n 19 C dX8_here_18 hl 0 rfl rfl ?_
  refine x_get 22 C dX8_here_19 X kf_X8_20 0 rfl rfl rfl ?_
  refine x_bipush 24 C dX8_here_22 (80 : Int32) kv_bipush_80 rfl ?_
  refine x_icmp_ge 39 27 C dX8_here_24 rfl rfl hf (fun hf => ?_) (fun hf => ?_)
  · refine x_iconst 40 C dX8_here_39 (-1 : Int32) kv_iconst_m1 rfl ?_
    obtain rfl := Option.some.inj hf
    exact R _ _ _ _ X dX8_here_40
  refine x_aload_n 28 C dX8_here_27 hl 0 rfl rfl ?_
  refine x_get 31 C dX8_here_28 X kf_X8_9 0 rfl rfl rfl ?_
  refine x_aload_n 32 C dX8_here_31 hl 0 rfl rfl ?_
  refine x_get 35 C dX8_here_32 X kf_X8_20 0 rfl rfl rfl ?_
  refine x_iald 36 C dX8_here_35 X 1 rfl hf rfl (fun hf => ?_)
  refine x_goto 40 C dX8_here_36 rfl ?_
  obtain rfl := Option.some.inj hf
  exact R _ _ _ _ X dX8_here_40
set_option maxHeartbeats 4000000 in
set_option maxRecDepth 100000 in
theorem w_X8_skipBlanks_2 {E : KE} {A : Nat → Prop} {D : va_G} {T : KT} (h0 h1 : Nat) (C : kx_C E cX8_skipBlanks 2 none RX8 1 20 D T) (N : Nat) (x : Int32) (m_size m_plain m_omegas m_end m_plainTold m_omegasTold : Int32) (m_bytes : Nat → Int32) (R : kx_RV E cX8_skipBlanks D A (w1_X8 T h0 h1 m_size m_plain m_omegas m_end x m_plainTold m_omegasTold m_bytes)) : ∀ (k : Nat), ∀ (m_place : Int32) (v1 : Int32) (H : Heap) (locs : List Loc) (ls : Array Slot), kx_H E D A H locs (w1_X8 T h0 h1 m_size m_plain m_omegas m_end m_place m_plainTold m_omegasTold m_bytes) → lv_has ls 2 [(0, .ref h0), (1, .int v1)] → f_X8_skipBlanks_2 N k v1 m_end m_place m_bytes = some x → kx_W E H locs 2 ls [] := by
  intro k
  induction k with
  | zero =>
    intro m_place v1 H locs ls X hl hf
    cases (show (none : Option (Int32)) = some x from hf)
  | succ k ih =>
    intro m_place v1 H locs ls X hl hf
    rw [f_X8_skipBlanks_2] at hf
    refine x_iload_n 3 C dX8_skipBlanks_2 hl 1 rfl rfl ?_
    refine x_bipush 5 C dX8_skipBlanks_3 (80 : Int32) kv_bipush_80 rfl ?_
    refine x_icmp_ge 33 8 C dX8_skipBlanks_5 rfl rfl hf (fun hf => ?_) (fun hf => ?_)
    · obtain rfl := Option.some.inj hf
      exact R _ _ _ _ X dX8_skipBlanks_33
    refine x_aload_n 9 C dX8_skipBlanks_8 hl 0 rfl rfl ?_
    obtain ⟨y9, hy9, hf⟩ := kx_bind hf
    refine x_callVi0 12 C dX8_skipBlanks_9 X hl kl_X8_43 (c_X8_here E.2.1 D T h0 h1  m_size m_plain m_omegas m_end m_place m_plainTold m_omegasTold m_bytes y9 hy9) rfl rfl [] rfl rfl rfl rfl rfl rfl (fun H locs X => ?_)
    refine x_bipush 14 C dX8_skipBlanks_12 (32 : Int32) kv_bipush_32 rfl ?_
    refine x_icmp_ne 33 17 C dX8_skipBlanks_14 rfl rfl hf (fun hf => ?_) (fun hf => ?_)
    · obtain rfl := Option.some.inj hf
      exact R _ _ _ _ X dX8_skipBlanks_33
    refine x_aload_n 18 C dX8_skipBlanks_17 hl 0 rfl rfl ?_
    refine x_dup 19 C dX8_skipBlanks_18 rfl rfl ?_
    refine x_get 22 C dX8_skipBlanks_19 X kf_X8_20 0 rfl rfl rfl ?_
    refine x_iconst 23 C dX8_skipBlanks_22 (1 : Int32) kv_iconst_1 rfl ?_
    refine x_iadd 24 C dX8_skipBlanks_23 rfl ?_
    refine x_put 27 C dX8_skipBlanks_24 X kp_X8_20 0 rfl rfl rfl rfl (w1_X8 T h0 h1 m_size m_plain m_omegas m_end (m_place + (1 : Int32)) m_plainTold m_omegasTold m_bytes) rfl rfl (fun H locs X => ?_)
    refine x_iinc 30 C dX8_skipBlanks_27 (1 : Int32) kv_iconst_1 [(1, .int (v1 + (1 : Int32))), (0, .ref h0)] hl 1 rfl rfl rfl rfl (fun ls hl => ?_)
    refine x_goto 2 C dX8_skipBlanks_30 rfl ?_
    exact ih (m_place + (1 : Int32)) (v1 + (1 : Int32)) _ _ _ X (lv_sub hl [1, 0] rfl) hf
set_option maxHeartbeats 4000000 in
set_option maxRecDepth 100000 in
theorem c_X8_skipBlanks (l : Launch) (D : va_G) (T : KT) (h0 h1 : Nat) (N : Nat)  (m_size m_plain m_omegas m_end m_place m_plainTold m_omegasTold : Int32) (m_bytes : Nat → Int32) (x : Int32) (hf : f_X8_skipBlanks N m_end m_place m_bytes = some x) : kx_MV l yX8_skipBlanks cX8_skipBlanks 2 none 1 20 D T [.ref h0] (w1_X8 T h0 h1 m_size m_plain m_omegas m_end m_place m_plainTold m_omegasTold m_bytes) (w1_X8 T h0 h1 m_size m_plain m_omegas m_end x m_plainTold m_omegasTold m_bytes) := by
  refine kx_ofMV RX8 rfl (plainFor_of_name (x := yX8_skipBlanks) kpn_X8) rfl ?_
  intro E A H ls _ C X R hl
  have hl : lv_has ls 2 [(0, .ref h0)] := hl
  rw [f_X8_skipBlanks] at hf
  refine x_iconst 1 C dX8_skipBlanks_0 (0 : Int32) kv_iconst_0 rfl ?_
  refine x_istore_n 2 C dX8_skipBlanks_1 [(1, .int (0 : Int32)), (0, .ref h0)] hl rfl rfl rfl (fun ls hl => ?_)
  exact w_X8_skipBlanks_2 h0 h1 C N x m_size m_plain m_omegas m_end m_plainTold m_omegasTold m_bytes R  N m_place (0 : Int32) _ _ _ X (lv_sub hl [1, 0] rfl) hf
set_option maxHeartbeats 4000000 in
set_option maxRecDepth 100000 in
theorem c_X8_isDigit (l : Launch) (D : va_G) (T : KT)  (v0 : Int32)  (x : Int32) (hf : f_X8_isDigit v0 = some x) : kx_MI l yX8_isDigit cX8_isDigit 1 (some .boolean) 0 0 D T [.int v0] (w4_ T  ) (w4_ T  ) x := by
  refine kx_ofMZ RX8 rfl (plainFor_of_name (x := yX8_isDigit) kpn_X8) rfl ?_
  intro E A H ls _ C X R hl
  have hl : lv_has ls 1 [(0, .int v0)] := hl
  rw [f_X8_isDigit] at hf
  refine x_iload_n 1 C dX8_isDigit_0 hl 0 rfl rfl ?_
  refine x_bipush 3 C dX8_isDigit_1 (48 : Int32) kv_bipush_48 rfl ?_
  refine x_icmp_lt 16 6 C dX8_isDigit_3 rfl rfl hf (fun hf => ?_) (fun hf => ?_)
  · refine x_iconst 17 C dX8_isDigit_16 (0 : Int32) kv_iconst_0 rfl ?_
    obtain rfl := Option.some.inj hf
    exact R _ _ _ _ X kb_0 dX8_isDigit_17
  refine x_iload_n 7 C dX8_isDigit_6 hl 0 rfl rfl ?_
  refine x_bipush 9 C dX8_isDigit_7 (57 : Int32) kv_bipush_57 rfl ?_
  refine x_icmp_gt 16 12 C dX8_isDigit_9 rfl rfl hf (fun hf => ?_) (fun hf => ?_)
  · refine x_iconst 17 C dX8_isDigit_16 (0 : Int32) kv_iconst_0 rfl ?_
    obtain rfl := Option.some.inj hf
    exact R _ _ _ _ X kb_0 dX8_isDigit_17
  refine x_iconst 13 C dX8_isDigit_12 (1 : Int32) kv_iconst_1 rfl ?_
  refine x_goto 17 C dX8_isDigit_13 rfl ?_
  obtain rfl := Option.some.inj hf
  exact R _ _ _ _ X kb_1 dX8_isDigit_17
set_option maxHeartbeats 4000000 in
set_option maxRecDepth 100000 in
theorem w_X8_readPart_230 {E : KE} {A : Nat → Prop} {D : va_G} {T : KT} (h0 h1 : Nat) (C : kx_C E cX8_readPart 8 (some .int) RX8 2 41 D T) (N : Nat) (x : Int32 × Int32 × Int32 × Int32 × Int32 × Int32) (m_size m_end : Int32) (m_bytes : Nat → Int32) (R : kx_RI E cX8_readPart D A (w1_X8 T h0 h1 m_size x.2.1 x.2.2.1 m_end x.2.2.2.1 x.2.2.2.2.1 x.2.2.2.2.2 m_bytes) x.1) : ∀ (m_plain m_omegas m_place m_plainTold m_omegasTold : Int32) (v3 v6 s0 : Int32) (H : Heap) (locs : List Loc) (ls : Array Slot), kx_H E D A H locs (w1_X8 T h0 h1 m_size m_plain m_omegas m_end m_place m_plainTold m_omegasTold m_bytes) → lv_has ls 8 [(0, .ref h0), (3, .int v3), (6, .int v6)] → f_X8_readPart_230 N v3 v6 s0 m_plain m_omegas m_place m_plainTold m_omegasTold = some x → kx_W E H locs 230 ls [.int s0] := by
  intro m_plain m_omegas m_place m_plainTold m_omegasTold v3 v6 s0 H locs ls X hl hf
  rw [f_X8_readPart_230] at hf
  refine x_istore 232 C dX8_readPart_230 [(7, .int s0), (0, .ref h0), (3, .int v3), (6, .int v6)] hl rfl rfl rfl (fun ls hl => ?_)
  refine x_aload_n 233 C dX8_readPart_232 hl 1 rfl rfl ?_
  refine x_iload 235 C dX8_readPart_233 hl 3 rfl rfl ?_
  refine x_iload_n 236 C dX8_readPart_235 hl 2 rfl rfl ?_
  refine x_if_eq 245 239 C dX8_readPart_236 rfl rfl hf (fun hf => ?_) (fun hf => ?_)
  · refine x_iload 247 C dX8_readPart_245 hl 0 rfl rfl ?_
    obtain ⟨y247, hy247, hf⟩ := kx_bind hf
    refine x_callVv 250 C dX8_readPart_247 X hl kl_X8_55 (c_X8_tell E.2.1 D T h0 h1 v6 s0 m_size m_plain m_omegas m_end m_place m_plainTold m_omegasTold y247 hy247) rfl rfl [] rfl rfl rfl rfl rfl cb_4 rfl (fun H locs X => ?_)
    refine x_iconst 251 C dX8_readPart_250 (0 : Int32) kv_iconst_0 rfl ?_
    obtain rfl := Option.some.inj hf
    exact R _ _ _ _ X dX8_readPart_251
  refine x_iload 241 C dX8_readPart_239 hl 0 rfl rfl ?_
  refine x_ineg 242 C dX8_readPart_241 rfl ?_
  refine x_goto 247 C dX8_readPart_242 rfl ?_
  obtain ⟨y247, hy247, hf⟩ := kx_bind hf
  refine x_callVv 250 C dX8_readPart_247 X hl kl_X8_55 (c_X8_tell E.2.1 D T h0 h1 v6 (-s0) m_size m_plain m_omegas m_end m_place m_plainTold m_omegasTold y247 hy247) rfl rfl [] rfl rfl rfl rfl rfl cb_4 rfl (fun H locs X => ?_)
  refine x_iconst 251 C dX8_readPart_250 (0 : Int32) kv_iconst_0 rfl ?_
  obtain rfl := Option.some.inj hf
  exact R _ _ _ _ X dX8_readPart_251
set_option maxHeartbeats 4000000 in
set_option maxRecDepth 100000 in
theorem w_X8_readPart_191 {E : KE} {A : Nat → Prop} {D : va_G} {T : KT} (h0 h1 : Nat) (C : kx_C E cX8_readPart 8 (some .int) RX8 2 41 D T) (N : Nat) (x : Int32 × Int32 × Int32 × Int32 × Int32 × Int32) (m_size m_end : Int32) (m_bytes : Nat → Int32) (R : kx_RI E cX8_readPart D A (w1_X8 T h0 h1 m_size x.2.1 x.2.2.1 m_end x.2.2.2.1 x.2.2.2.2.1 x.2.2.2.2.2 m_bytes) x.1) : ∀ (m_plain m_omegas m_place m_plainTold m_omegasTold : Int32) (v2 v3 v4 v5 v6 : Int32) (H : Heap) (locs : List Loc) (ls : Array Slot), kx_H E D A H locs (w1_X8 T h0 h1 m_size m_plain m_omegas m_end m_place m_plainTold m_omegasTold m_bytes) → lv_has ls 8 [(0, .ref h0), (2, .int v2), (3, .int v3), (4, .int v4), (5, .int v5), (6, .int v6)] → f_X8_readPart_191 N v2 v3 v4 v5 v6 m_plain m_omegas m_place m_plainTold m_omegasTold = some x → kx_W E H locs 191 ls [] := by
  intro m_plain m_omegas m_place m_plainTold m_omegasTold v2 v3 v4 v5 v6 H locs ls X hl hf
  rw [f_X8_readPart_191] at hf
  refine x_iload 193 C dX8_readPart_191 hl 5 rfl rfl ?_
  refine x_if_eq 206 196 C dX8_readPart_193 rfl rfl hf (fun hf => ?_) (fun hf => ?_)
  · refine x_aload_n 207 C dX8_readPart_206 hl 0 rfl rfl ?_
    refine x_get 210 C dX8_readPart_207 X kf_X8_29 0 rfl rfl rfl ?_
    refine x_if_eq 219 213 C dX8_readPart_210 rfl rfl hf (fun hf => ?_) (fun hf => ?_)
    · refine x_iload 221 C dX8_readPart_219 hl 3 rfl rfl ?_
      refine x_if_ne 228 224 C dX8_readPart_221 rfl rfl hf (fun hf => ?_) (fun hf => ?_)
      · refine x_iload 230 C dX8_readPart_228 hl 4 rfl rfl ?_
        exact w_X8_readPart_230 h0 h1 C N x m_size m_end m_bytes R  m_plain m_omegas m_place m_plainTold m_omegasTold v3 v6 v5 _ _ _ X (lv_sub hl [0, 2, 5] rfl) hf
      refine x_iconst 225 C dX8_readPart_224 (1 : Int32) kv_iconst_1 rfl ?_
      refine x_goto 230 C dX8_readPart_225 rfl ?_
      exact w_X8_readPart_230 h0 h1 C N x m_size m_end m_bytes R  m_plain m_omegas m_place m_plainTold m_omegasTold v3 v6 (1 : Int32) _ _ _ X (lv_sub hl [0, 2, 5] rfl) hf
    refine x_iconst 214 C dX8_readPart_213 (3 : Int32) kv_iconst_3 rfl ?_
    refine x_iload_n 215 C dX8_readPart_214 hl 1 rfl rfl ?_
    obtain ⟨y215, hy215, hf⟩ := kx_bind hf
    refine x_callSi 218 C dX8_readPart_215 X hl kl_X8_47 (c_X8_fault E.2.1 D T  (3 : Int32) v2  y215 hy215) [] rfl rfl rfl rfl rfl cb_5 rfl (fun H locs X => ?_)
    obtain rfl := Option.some.inj hf
    exact R _ _ _ _ X dX8_readPart_218
  refine x_aload_n 197 C dX8_readPart_196 hl 0 rfl rfl ?_
  refine x_get 200 C dX8_readPart_197 X kf_X8_33 0 rfl rfl rfl ?_
  refine x_if_eq 219 203 C dX8_readPart_200 rfl rfl hf (fun hf => ?_) (fun hf => ?_)
  · refine x_iload 221 C dX8_readPart_219 hl 3 rfl rfl ?_
    refine x_if_ne 228 224 C dX8_readPart_221 rfl rfl hf (fun hf => ?_) (fun hf => ?_)
    · refine x_iload 230 C dX8_readPart_228 hl 4 rfl rfl ?_
      exact w_X8_readPart_230 h0 h1 C N x m_size m_end m_bytes R  m_plain m_omegas m_place m_plainTold m_omegasTold v3 v6 v5 _ _ _ X (lv_sub hl [0, 2, 5] rfl) hf
    refine x_iconst 225 C dX8_readPart_224 (1 : Int32) kv_iconst_1 rfl ?_
    refine x_goto 230 C dX8_readPart_225 rfl ?_
    exact w_X8_readPart_230 h0 h1 C N x m_size m_end m_bytes R  m_plain m_omegas m_place m_plainTold m_omegasTold v3 v6 (1 : Int32) _ _ _ X (lv_sub hl [0, 2, 5] rfl) hf
  refine x_goto 213 C dX8_readPart_203 rfl ?_
  refine x_iconst 214 C dX8_readPart_213 (3 : Int32) kv_iconst_3 rfl ?_
  refine x_iload_n 215 C dX8_readPart_214 hl 1 rfl rfl ?_
  obtain ⟨y215, hy215, hf⟩ := kx_bind hf
  refine x_callSi 218 C dX8_readPart_215 X hl kl_X8_47 (c_X8_fault E.2.1 D T  (3 : Int32) v2  y215 hy215) [] rfl rfl rfl rfl rfl cb_5 rfl (fun H locs X => ?_)
  obtain rfl := Option.some.inj hf
  exact R _ _ _ _ X dX8_readPart_218
set_option maxHeartbeats 4000000 in
set_option maxRecDepth 100000 in
theorem w_X8_readPart_153 {E : KE} {A : Nat → Prop} {D : va_G} {T : KT} (h0 h1 : Nat) (C : kx_C E cX8_readPart 8 (some .int) RX8 2 41 D T) (N : Nat) (x : Int32 × Int32 × Int32 × Int32 × Int32 × Int32) (m_size m_end : Int32) (m_bytes : Nat → Int32) (R : kx_RI E cX8_readPart D A (w1_X8 T h0 h1 m_size x.2.1 x.2.2.1 m_end x.2.2.2.1 x.2.2.2.2.1 x.2.2.2.2.2 m_bytes) x.1) : ∀ (m_plain m_omegas m_place m_plainTold m_omegasTold : Int32) (v2 v3 v4 v5 s0 : Int32) (H : Heap) (locs : List Loc) (ls : Array Slot), kx_H E D A H locs (w1_X8 T h0 h1 m_size m_plain m_omegas m_end m_place m_plainTold m_omegasTold m_bytes) → lv_has ls 8 [(0, .ref h0), (2, .int v2), (3, .int v3), (4, .int v4), (5, .int v5)] → f_X8_readPart_153 N v2 v3 v4 v5 s0 m_plain m_omegas m_end m_place m_plainTold m_omegasTold m_bytes = some x → kx_W E H locs 153 ls [.int s0] := by
  intro m_plain m_omegas m_place m_plainTold m_omegasTold v2 v3 v4 v5 s0 H locs ls X hl hf
  rw [f_X8_readPart_153] at hf
  refine x_istore 155 C dX8_readPart_153 [(6, .int s0), (0, .ref h0), (2, .int v2), (3, .int v3), (4, .int v4), (5, .int v5)] hl rfl rfl rfl (fun ls hl => ?_)
  refine x_iload 157 C dX8_readPart_155 hl 0 rfl rfl ?_
  refine x_if_eq 177 160 C dX8_readPart_157 rfl rfl hf (fun hf => ?_) (fun hf => ?_)
  · refine x_iload 179 C dX8_readPart_177 hl 4 rfl rfl ?_
    refine x_if_ne 191 182 C dX8_readPart_179 rfl rfl hf (fun hf => ?_) (fun hf => ?_)
    · exact w_X8_readPart_191 h0 h1 C N x m_size m_end m_bytes R  m_plain m_omegas m_place m_plainTold m_omegasTold v2 v3 v4 v5 s0 _ _ _ X (lv_sub hl [1, 2, 3, 4, 5, 0] rfl) hf
    refine x_iconst 183 C dX8_readPart_182 (1 : Int32) kv_iconst_1 rfl ?_
    refine x_aload_n 184 C dX8_readPart_183 hl 1 rfl rfl ?_
    refine x_get 187 C dX8_readPart_184 X kf_X8_20 0 rfl rfl rfl ?_
    obtain ⟨y187, hy187, hf⟩ := kx_bind hf
    refine x_callSi 190 C dX8_readPart_187 X hl kl_X8_47 (c_X8_fault E.2.1 D T  (1 : Int32) m_place  y187 hy187) [] rfl rfl rfl rfl rfl cb_5 rfl (fun H locs X => ?_)
    obtain rfl := Option.some.inj hf
    exact R _ _ _ _ X dX8_readPart_190
  refine x_aload_n 161 C dX8_readPart_160 hl 1 rfl rfl ?_
  refine x_dup 162 C dX8_readPart_161 rfl rfl ?_
  refine x_get 165 C dX8_readPart_162 X kf_X8_20 0 rfl rfl rfl ?_
  refine x_iconst 166 C dX8_readPart_165 (1 : Int32) kv_iconst_1 rfl ?_
  refine x_iadd 167 C dX8_readPart_166 rfl ?_
  refine x_put 170 C dX8_readPart_167 X kp_X8_20 0 rfl rfl rfl rfl (w1_X8 T h0 h1 m_size m_plain m_omegas m_end (m_place + (1 : Int32)) m_plainTold m_omegasTold m_bytes) rfl rfl (fun H locs X => ?_)
  refine x_aload_n 171 C dX8_readPart_170 hl 1 rfl rfl ?_
  obtain ⟨y171, hy171, hf⟩ := kx_bind hf
  refine x_callVv0 174 C dX8_readPart_171 X hl kl_X8_36 (c_X8_skipBlanks E.2.1 D T h0 h1 N  m_size m_plain m_omegas m_end (m_place + (1 : Int32)) m_plainTold m_omegasTold m_bytes y171 hy171) rfl rfl [] rfl rfl rfl rfl rfl rfl (fun H locs X => ?_)
  refine x_goto 191 C dX8_readPart_174 rfl ?_
  exact w_X8_readPart_191 h0 h1 C N x m_size m_end m_bytes R  m_plain m_omegas y171 m_plainTold m_omegasTold v2 v3 v4 v5 s0 _ _ _ X (lv_sub hl [1, 2, 3, 4, 5, 0] rfl) hf
set_option maxHeartbeats 4000000 in
set_option maxRecDepth 100000 in
theorem w_X8_readPart_116 {E : KE} {A : Nat → Prop} {D : va_G} {T : KT} (h0 h1 : Nat) (C : kx_C E cX8_readPart 8 (some .int) RX8 2 41 D T) (N : Nat) (x : Int32 × Int32 × Int32 × Int32 × Int32 × Int32) (m_size m_end : Int32) (m_bytes : Nat → Int32) (R : kx_RI E cX8_readPart D A (w1_X8 T h0 h1 m_size x.2.1 x.2.2.1 m_end x.2.2.2.1 x.2.2.2.2.1 x.2.2.2.2.2 m_bytes) x.1) : ∀ (m_plain m_omegas m_place m_plainTold m_omegasTold : Int32) (v2 v3 v4 v5 : Int32) (H : Heap) (locs : List Loc) (ls : Array Slot), kx_H E D A H locs (w1_X8 T h0 h1 m_size m_plain m_omegas m_end m_place m_plainTold m_omegasTold m_bytes) → lv_has ls 8 [(0, .ref h0), (2, .int v2), (3, .int v3), (4, .int v4), (5, .int v5)] → f_X8_readPart_116 N v2 v3 v4 v5 m_plain m_omegas m_end m_place m_plainTold m_omegasTold m_bytes = some x → kx_W E H locs 116 ls [] := by
  intro m_plain m_omegas m_place m_plainTold m_omegasTold v2 v3 v4 v5 H locs ls X hl hf
  rw [f_X8_readPart_116] at hf
  refine x_aload_n 117 C dX8_readPart_116 hl 0 rfl rfl ?_
  obtain ⟨y117, hy117, hf⟩ := kx_bind hf
  refine x_callVi0 120 C dX8_readPart_117 X hl kl_X8_43 (c_X8_here E.2.1 D T h0 h1  m_size m_plain m_omegas m_end m_place m_plainTold m_omegasTold m_bytes y117 hy117) rfl rfl [] rfl rfl rfl rfl rfl rfl (fun H locs X => ?_)
  obtain ⟨y120, hy120, hf⟩ := kx_bind hf
  refine x_callSi 123 C dX8_readPart_120 X hl kl_X8_51 (c_X8_isDigit E.2.1 D T  y117  y120 hy120) [] rfl rfl rfl rfl rfl cb_5 rfl (fun H locs X => ?_)
  refine x_if_eq 135 126 C dX8_readPart_123 rfl rfl hf (fun hf => ?_) (fun hf => ?_)
  · refine x_aload_n 136 C dX8_readPart_135 hl 0 rfl rfl ?_
    obtain ⟨y136, hy136, hf⟩ := kx_bind hf
    refine x_callVv0 139 C dX8_readPart_136 X hl kl_X8_36 (c_X8_skipBlanks E.2.1 D T h0 h1 N  m_size m_plain m_omegas m_end m_place m_plainTold m_omegasTold m_bytes y136 hy136) rfl rfl [] rfl rfl rfl rfl rfl rfl (fun H locs X => ?_)
    refine x_aload_n 140 C dX8_readPart_139 hl 0 rfl rfl ?_
    obtain ⟨y140, hy140, hf⟩ := kx_bind hf
    refine x_callVi0 143 C dX8_readPart_140 X hl kl_X8_43 (c_X8_here E.2.1 D T h0 h1  m_size m_plain m_omegas m_end y136 m_plainTold m_omegasTold m_bytes y140 hy140) rfl rfl [] rfl rfl rfl rfl rfl rfl (fun H locs X => ?_)
    refine x_bipush 145 C dX8_readPart_143 (119 : Int32) kv_bipush_119 rfl ?_
    refine x_icmp_ne 152 148 C dX8_readPart_145 rfl rfl hf (fun hf => ?_) (fun hf => ?_)
    · refine x_iconst 153 C dX8_readPart_152 (0 : Int32) kv_iconst_0 rfl ?_
      exact w_X8_readPart_153 h0 h1 C N x m_size m_end m_bytes R  m_plain m_omegas y136 m_plainTold m_omegasTold v2 v3 v4 v5 (0 : Int32) _ _ _ X (lv_sub hl [0, 1, 2, 3, 4] rfl) hf
    refine x_iconst 149 C dX8_readPart_148 (1 : Int32) kv_iconst_1 rfl ?_
    refine x_goto 153 C dX8_readPart_149 rfl ?_
    exact w_X8_readPart_153 h0 h1 C N x m_size m_end m_bytes R  m_plain m_omegas y136 m_plainTold m_omegasTold v2 v3 v4 v5 (1 : Int32) _ _ _ X (lv_sub hl [0, 1, 2, 3, 4] rfl) hf
  refine x_iconst 127 C dX8_readPart_126 (2 : Int32) kv_iconst_2 rfl ?_
  refine x_aload_n 128 C dX8_readPart_127 hl 0 rfl rfl ?_
  refine x_get 131 C dX8_readPart_128 X kf_X8_20 0 rfl rfl rfl ?_
  obtain ⟨y131, hy131, hf⟩ := kx_bind hf
  refine x_callSi 134 C dX8_readPart_131 X hl kl_X8_47 (c_X8_fault E.2.1 D T  (2 : Int32) m_place  y131 hy131) [] rfl rfl rfl rfl rfl cb_5 rfl (fun H locs X => ?_)
  obtain rfl := Option.some.inj hf
  exact R _ _ _ _ X dX8_readPart_134
set_option maxHeartbeats 4000000 in
set_option maxRecDepth 100000 in
theorem w_X8_readPart_69 {E : KE} {A : Nat → Prop} {D : va_G} {T : KT} (h0 h1 : Nat) (C : kx_C E cX8_readPart 8 (some .int) RX8 2 41 D T) (N : Nat) (x : Int32 × Int32 × Int32 × Int32 × Int32 × Int32) (m_size m_end : Int32) (m_bytes : Nat → Int32) (R : kx_RI E cX8_readPart D A (w1_X8 T h0 h1 m_size x.2.1 x.2.2.1 m_end x.2.2.2.1 x.2.2.2.2.1 x.2.2.2.2.2 m_bytes) x.1) : ∀ (k : Nat), ∀ (m_plain m_omegas m_place m_plainTold m_omegasTold : Int32) (v2 v3 v4 v5 : Int32) (H : Heap) (locs : List Loc) (ls : Array Slot), kx_H E D A H locs (w1_X8 T h0 h1 m_size m_plain m_omegas m_end m_place m_plainTold m_omegasTold m_bytes) → lv_has ls 8 [(0, .ref h0), (2, .int v2), (3, .int v3), (4, .int v4), (5, .int v5)] → f_X8_readPart_69 N k v2 v3 v4 v5 m_plain m_omegas m_end m_place m_plainTold m_omegasTold m_bytes = some x → kx_W E H locs 69 ls [] := by
  intro k
  induction k with
  | zero =>
    intro m_plain m_omegas m_place m_plainTold m_omegasTold v2 v3 v4 v5 H locs ls X hl hf
    cases (show (none : Option (Int32 × Int32 × Int32 × Int32 × Int32 × Int32)) = some x from hf)
  | succ k ih =>
    intro m_plain m_omegas m_place m_plainTold m_omegasTold v2 v3 v4 v5 H locs ls X hl hf
    rw [f_X8_readPart_69] at hf
    refine x_iload 71 C dX8_readPart_69 hl 3 rfl rfl ?_
    refine x_iconst 72 C dX8_readPart_71 (4 : Int32) kv_iconst_4 rfl ?_
    refine x_icmp_ge 116 75 C dX8_readPart_72 rfl rfl hf (fun hf => ?_) (fun hf => ?_)
    · exact w_X8_readPart_116 h0 h1 C N x m_size m_end m_bytes R  m_plain m_omegas m_place m_plainTold m_omegasTold v2 v3 v4 v5 _ _ _ X (lv_sub hl [0, 1, 2, 3, 4] rfl) hf
    refine x_aload_n 76 C dX8_readPart_75 hl 0 rfl rfl ?_
    obtain ⟨y76, hy76, hf⟩ := kx_bind hf
    refine x_callVi0 79 C dX8_readPart_76 X hl kl_X8_43 (c_X8_here E.2.1 D T h0 h1  m_size m_plain m_omegas m_end m_place m_plainTold m_omegasTold m_bytes y76 hy76) rfl rfl [] rfl rfl rfl rfl rfl rfl (fun H locs X => ?_)
    obtain ⟨y79, hy79, hf⟩ := kx_bind hf
    refine x_callSi 82 C dX8_readPart_79 X hl kl_X8_51 (c_X8_isDigit E.2.1 D T  y76  y79 hy79) [] rfl rfl rfl rfl rfl cb_5 rfl (fun H locs X => ?_)
    refine x_if_eq 116 85 C dX8_readPart_82 rfl rfl hf (fun hf => ?_) (fun hf => ?_)
    · exact w_X8_readPart_116 h0 h1 C N x m_size m_end m_bytes R  m_plain m_omegas m_place m_plainTold m_omegasTold v2 v3 v4 v5 _ _ _ X (lv_sub hl [0, 1, 2, 3, 4] rfl) hf
    refine x_bipush 87 C dX8_readPart_85 (10 : Int32) kv_bipush_10 rfl ?_
    refine x_iload 89 C dX8_readPart_87 hl 4 rfl rfl ?_
    refine x_imul 90 C dX8_readPart_89 rfl ?_
    refine x_aload_n 91 C dX8_readPart_90 hl 0 rfl rfl ?_
    obtain ⟨y91, hy91, hf⟩ := kx_bind hf
    refine x_callVi0 94 C dX8_readPart_91 X hl kl_X8_43 (c_X8_here E.2.1 D T h0 h1  m_size m_plain m_omegas m_end m_place m_plainTold m_omegasTold m_bytes y91 hy91) rfl rfl [.int ((10 : Int32) * v5)] rfl rfl rfl rfl rfl rfl (fun H locs X => ?_)
    refine x_iadd 95 C dX8_readPart_94 rfl ?_
    refine x_bipush 97 C dX8_readPart_95 (48 : Int32) kv_bipush_48 rfl ?_
    refine x_isub 98 C dX8_readPart_97 rfl ?_
    refine x_istore 100 C dX8_readPart_98 [(5, .int ((((10 : Int32) * v5) + y91) - (48 : Int32))), (0, .ref h0), (2, .int v2), (3, .int v3), (4, .int v4)] hl rfl rfl rfl (fun ls hl => ?_)
    refine x_iinc 103 C dX8_readPart_100 (1 : Int32) kv_iconst_1 [(4, .int (v4 + (1 : Int32))), (5, .int ((((10 : Int32) * v5) + y91) - (48 : Int32))), (0, .ref h0), (2, .int v2), (3, .int v3)] hl 4 rfl rfl rfl rfl (fun ls hl => ?_)
    refine x_aload_n 104 C dX8_readPart_103 hl 2 rfl rfl ?_
    refine x_dup 105 C dX8_readPart_104 rfl rfl ?_
    refine x_get 108 C dX8_readPart_105 X kf_X8_20 0 rfl rfl rfl ?_
    refine x_iconst 109 C dX8_readPart_108 (1 : Int32) kv_iconst_1 rfl ?_
    refine x_iadd 110 C dX8_readPart_109 rfl ?_
    refine x_put 113 C dX8_readPart_110 X kp_X8_20 0 rfl rfl rfl rfl (w1_X8 T h0 h1 m_size m_plain m_omegas m_end (m_place + (1 : Int32)) m_plainTold m_omegasTold m_bytes) rfl rfl (fun H locs X => ?_)
    refine x_goto 69 C dX8_readPart_113 rfl ?_
    exact ih m_plain m_omegas (m_place + (1 : Int32)) m_plainTold m_omegasTold v2 v3 (v4 + (1 : Int32)) ((((10 : Int32) * v5) + y91) - (48 : Int32)) _ _ _ X (lv_sub hl [2, 3, 4, 0, 1] rfl) hf
set_option maxHeartbeats 4000000 in
set_option maxRecDepth 100000 in
theorem w_X8_readPart_33 {E : KE} {A : Nat → Prop} {D : va_G} {T : KT} (h0 h1 : Nat) (C : kx_C E cX8_readPart 8 (some .int) RX8 2 41 D T) (N : Nat) (x : Int32 × Int32 × Int32 × Int32 × Int32 × Int32) (m_size m_end : Int32) (m_bytes : Nat → Int32) (R : kx_RI E cX8_readPart D A (w1_X8 T h0 h1 m_size x.2.1 x.2.2.1 m_end x.2.2.2.1 x.2.2.2.2.1 x.2.2.2.2.2 m_bytes) x.1) : ∀ (m_plain m_omegas m_place m_plainTold m_omegasTold : Int32) (v2 v3 : Int32) (H : Heap) (locs : List Loc) (ls : Array Slot), kx_H E D A H locs (w1_X8 T h0 h1 m_size m_plain m_omegas m_end m_place m_plainTold m_omegasTold m_bytes) → lv_has ls 8 [(0, .ref h0), (2, .int v2), (3, .int v3)] → f_X8_readPart_33 N v2 v3 m_plain m_omegas m_end m_place m_plainTold m_omegasTold m_bytes = some x → kx_W E H locs 33 ls [] := by
  intro m_plain m_omegas m_place m_plainTold m_omegasTold v2 v3 H locs ls X hl hf
  rw [f_X8_readPart_33] at hf
  refine x_aload_n 34 C dX8_readPart_33 hl 0 rfl rfl ?_
  refine x_dup 35 C dX8_readPart_34 rfl rfl ?_
  refine x_get 38 C dX8_readPart_35 X kf_X8_20 0 rfl rfl rfl ?_
  refine x_iconst 39 C dX8_readPart_38 (1 : Int32) kv_iconst_1 rfl ?_
  refine x_iadd 40 C dX8_readPart_39 rfl ?_
  refine x_put 43 C dX8_readPart_40 X kp_X8_20 0 rfl rfl rfl rfl (w1_X8 T h0 h1 m_size m_plain m_omegas m_end (m_place + (1 : Int32)) m_plainTold m_omegasTold m_bytes) rfl rfl (fun H locs X => ?_)
  refine x_aload_n 44 C dX8_readPart_43 hl 0 rfl rfl ?_
  obtain ⟨y44, hy44, hf⟩ := kx_bind hf
  refine x_callVv0 47 C dX8_readPart_44 X hl kl_X8_36 (c_X8_skipBlanks E.2.1 D T h0 h1 N  m_size m_plain m_omegas m_end (m_place + (1 : Int32)) m_plainTold m_omegasTold m_bytes y44 hy44) rfl rfl [] rfl rfl rfl rfl rfl rfl (fun H locs X => ?_)
  refine x_goto 63 C dX8_readPart_47 rfl ?_
  refine x_iconst 64 C dX8_readPart_63 (0 : Int32) kv_iconst_0 rfl ?_
  refine x_istore 66 C dX8_readPart_64 [(4, .int (0 : Int32)), (0, .ref h0), (2, .int v2), (3, .int v3)] hl rfl rfl rfl (fun ls hl => ?_)
  refine x_iconst 67 C dX8_readPart_66 (0 : Int32) kv_iconst_0 rfl ?_
  refine x_istore 69 C dX8_readPart_67 [(5, .int (0 : Int32)), (4, .int (0 : Int32)), (0, .ref h0), (2, .int v2), (3, .int v3)] hl rfl rfl rfl (fun ls hl => ?_)
  exact w_X8_readPart_69 h0 h1 C N x m_size m_end m_bytes R  N m_plain m_omegas y44 m_plainTold m_omegasTold v2 v3 (0 : Int32) (0 : Int32) _ _ _ X (lv_sub hl [2, 3, 4, 1, 0] rfl) hf
set_option maxHeartbeats 4000000 in
set_option maxRecDepth 100000 in
theorem w_X8_readPart_19 {E : KE} {A : Nat → Prop} {D : va_G} {T : KT} (h0 h1 : Nat) (C : kx_C E cX8_readPart 8 (some .int) RX8 2 41 D T) (N : Nat) (x : Int32 × Int32 × Int32 × Int32 × Int32 × Int32) (m_size m_end : Int32) (m_bytes : Nat → Int32) (R : kx_RI E cX8_readPart D A (w1_X8 T h0 h1 m_size x.2.1 x.2.2.1 m_end x.2.2.2.1 x.2.2.2.2.1 x.2.2.2.2.2 m_bytes) x.1) : ∀ (m_plain m_omegas m_place m_plainTold m_omegasTold : Int32) (v1 v2 s0 : Int32) (H : Heap) (locs : List Loc) (ls : Array Slot), kx_H E D A H locs (w1_X8 T h0 h1 m_size m_plain m_omegas m_end m_place m_plainTold m_omegasTold m_bytes) → lv_has ls 8 [(0, .ref h0), (1, .int v1), (2, .int v2)] → f_X8_readPart_19 N v1 v2 s0 m_plain m_omegas m_end m_place m_plainTold m_omegasTold m_bytes = some x → kx_W E H locs 19 ls [.int s0] := by
  intro m_plain m_omegas m_place m_plainTold m_omegasTold v1 v2 s0 H locs ls X hl hf
  rw [f_X8_readPart_19] at hf
  refine x_istore_n 20 C dX8_readPart_19 [(3, .int s0), (0, .ref h0), (1, .int v1), (2, .int v2)] hl rfl rfl rfl (fun ls hl => ?_)
  refine x_iload_n 21 C dX8_readPart_20 hl 0 rfl rfl ?_
  refine x_if_ne 33 24 C dX8_readPart_21 rfl rfl hf (fun hf => ?_) (fun hf => ?_)
  · exact w_X8_readPart_33 h0 h1 C N x m_size m_end m_bytes R  m_plain m_omegas m_place m_plainTold m_omegasTold v2 s0 _ _ _ X (lv_sub hl [1, 3, 0] rfl) hf
  refine x_aload_n 25 C dX8_readPart_24 hl 1 rfl rfl ?_
  obtain ⟨y25, hy25, hf⟩ := kx_bind hf
  refine x_callVi0 28 C dX8_readPart_25 X hl kl_X8_43 (c_X8_here E.2.1 D T h0 h1  m_size m_plain m_omegas m_end m_place m_plainTold m_omegasTold m_bytes y25 hy25) rfl rfl [] rfl rfl rfl rfl rfl rfl (fun H locs X => ?_)
  refine x_bipush 30 C dX8_readPart_28 (43 : Int32) kv_bipush_43 rfl ?_
  refine x_icmp_ne 50 33 C dX8_readPart_30 rfl rfl hf (fun hf => ?_) (fun hf => ?_)
  · refine x_iload_n 51 C dX8_readPart_50 hl 2 rfl rfl ?_
    refine x_if_ne 63 54 C dX8_readPart_51 rfl rfl hf (fun hf => ?_) (fun hf => ?_)
    · refine x_iconst 64 C dX8_readPart_63 (0 : Int32) kv_iconst_0 rfl ?_
      refine x_istore 66 C dX8_readPart_64 [(4, .int (0 : Int32)), (3, .int s0), (0, .ref h0), (1, .int v1), (2, .int v2)] hl rfl rfl rfl (fun ls hl => ?_)
      refine x_iconst 67 C dX8_readPart_66 (0 : Int32) kv_iconst_0 rfl ?_
      refine x_istore 69 C dX8_readPart_67 [(5, .int (0 : Int32)), (4, .int (0 : Int32)), (3, .int s0), (0, .ref h0), (1, .int v1), (2, .int v2)] hl rfl rfl rfl (fun ls hl => ?_)
      exact w_X8_readPart_69 h0 h1 C N x m_size m_end m_bytes R  N m_plain m_omegas m_place m_plainTold m_omegasTold v2 s0 (0 : Int32) (0 : Int32) _ _ _ X (lv_sub hl [3, 5, 2, 1, 0] rfl) hf
    refine x_iconst 55 C dX8_readPart_54 (1 : Int32) kv_iconst_1 rfl ?_
    refine x_aload_n 56 C dX8_readPart_55 hl 1 rfl rfl ?_
    refine x_get 59 C dX8_readPart_56 X kf_X8_20 0 rfl rfl rfl ?_
    obtain ⟨y59, hy59, hf⟩ := kx_bind hf
    refine x_callSi 62 C dX8_readPart_59 X hl kl_X8_47 (c_X8_fault E.2.1 D T  (1 : Int32) m_place  y59 hy59) [] rfl rfl rfl rfl rfl cb_5 rfl (fun H locs X => ?_)
    obtain rfl := Option.some.inj hf
    exact R _ _ _ _ X dX8_readPart_62
  exact w_X8_readPart_33 h0 h1 C N x m_size m_end m_bytes R  m_plain m_omegas m_place m_plainTold m_omegasTold v2 s0 _ _ _ X (lv_sub hl [1, 3, 0] rfl) hf
set_option maxHeartbeats 4000000 in
set_option maxRecDepth 100000 in
theorem c_X8_readPart (l : Launch) (D : va_G) (T : KT) (h0 h1 : Nat) (N : Nat) (v1 : Int32) (m_size m_plain m_omegas m_end m_place m_plainTold m_omegasTold : Int32) (m_bytes : Nat → Int32) (x : Int32 × Int32 × Int32 × Int32 × Int32 × Int32) (hf : f_X8_readPart N v1 m_plain m_omegas m_end m_place m_plainTold m_omegasTold m_bytes = some x) : kx_MI l yX8_readPart cX8_readPart 8 (some .int) 2 41 D T [.ref h0, .int v1] (w1_X8 T h0 h1 m_size m_plain m_omegas m_end m_place m_plainTold m_omegasTold m_bytes) (w1_X8 T h0 h1 m_size x.2.1 x.2.2.1 m_end x.2.2.2.1 x.2.2.2.2.1 x.2.2.2.2.2 m_bytes) x.1 := by
  refine kx_ofMI RX8 rfl (plainFor_of_name (x := yX8_readPart) kpn_X8) rfl ?_
  intro E A H ls _ C X R hl
  have hl : lv_has ls 8 [(0, .ref h0), (1, .int v1)] := hl
  rw [f_X8_readPart] at hf
  refine x_aload_n 1 C dX8_readPart_0 hl 0 rfl rfl ?_
  refine x_get 4 C dX8_readPart_1 X kf_X8_20 0 rfl rfl rfl ?_
  refine x_istore_n 5 C dX8_readPart_4 [(2, .int m_place), (0, .ref h0), (1, .int v1)] hl rfl rfl rfl (fun ls hl => ?_)
  refine x_aload_n 6 C dX8_readPart_5 hl 1 rfl rfl ?_
  obtain ⟨y6, hy6, hf⟩ := kx_bind hf
  refine x_callVi0 9 C dX8_readPart_6 X hl kl_X8_43 (c_X8_here E.2.1 D T h0 h1  m_size m_plain m_omegas m_end m_place m_plainTold m_omegasTold m_bytes y6 hy6) rfl rfl [] rfl rfl rfl rfl rfl rfl (fun H locs X => ?_)
  refine x_bipush 11 C dX8_readPart_9 (45 : Int32) kv_bipush_45 rfl ?_
  refine x_icmp_ne 18 14 C dX8_readPart_11 rfl rfl hf (fun hf => ?_) (fun hf => ?_)
  · refine x_iconst 19 C dX8_readPart_18 (0 : Int32) kv_iconst_0 rfl ?_
    exact w_X8_readPart_19 h0 h1 C N x m_size m_end m_bytes R  m_plain m_omegas m_place m_plainTold m_omegasTold v1 m_place (0 : Int32) _ _ _ X (lv_sub hl [1, 2, 0] rfl) hf
  refine x_iconst 15 C dX8_readPart_14 (1 : Int32) kv_iconst_1 rfl ?_
  refine x_goto 19 C dX8_readPart_15 rfl ?_
  exact w_X8_readPart_19 h0 h1 C N x m_size m_end m_bytes R  m_plain m_omegas m_place m_plainTold m_omegasTold v1 m_place (1 : Int32) _ _ _ X (lv_sub hl [1, 2, 0] rfl) hf
set_option maxHeartbeats 4000000 in
set_option maxRecDepth 100000 in
theorem w_X8_readText_42 {E : KE} {A : Nat → Prop} {D : va_G} {T : KT} (h0 h1 : Nat) (C : kx_C E cX8_readText 4 (some .int) RX8 3 68 D T) (N : Nat) (x : Int32 × Int32 × Int32 × Int32 × Int32 × Int32 × Int32) (m_size : Int32) (m_bytes : Nat → Int32) (R : kx_RI E cX8_readText D A (w1_X8 T h0 h1 m_size x.2.1 x.2.2.1 x.2.2.2.1 x.2.2.2.2.1 x.2.2.2.2.2.1 x.2.2.2.2.2.2 m_bytes) x.1) : ∀ (k : Nat), ∀ (m_plain m_omegas m_end m_place m_plainTold m_omegasTold : Int32) (v2 v3 : Int32) (H : Heap) (locs : List Loc) (ls : Array Slot), kx_H E D A H locs (w1_X8 T h0 h1 m_size m_plain m_omegas m_end m_place m_plainTold m_omegasTold m_bytes) → lv_has ls 4 [(0, .ref h0), (2, .int v2), (3, .int v3)] → f_X8_readText_42 N k v2 v3 m_plain m_omegas m_end m_place m_plainTold m_omegasTold m_bytes = some x → kx_W E H locs 42 ls [] := by
  intro k
  induction k with
  | zero =>
    intro m_plain m_omegas m_end m_place m_plainTold m_omegasTold v2 v3 H locs ls X hl hf
    cases (show (none : Option (Int32 × Int32 × Int32 × Int32 × Int32 × Int32 × Int32)) = some x from hf)
  | succ k ih =>
    intro m_plain m_omegas m_end m_place m_plainTold m_omegasTold v2 v3 H locs ls X hl hf
    rw [f_X8_readText_42] at hf
    refine x_iload_n 43 C dX8_readText_42 hl 2 rfl rfl ?_
    refine x_bipush 45 C dX8_readText_43 (80 : Int32) kv_bipush_80 rfl ?_
    refine x_icmp_ge 75 48 C dX8_readText_45 rfl rfl hf (fun hf => ?_) (fun hf => ?_)
    · refine x_iload_n 76 C dX8_readText_75 hl 1 rfl rfl ?_
      obtain rfl := Option.some.inj hf
      exact R _ _ _ _ X dX8_readText_76
    refine x_iload_n 49 C dX8_readText_48 hl 1 rfl rfl ?_
    refine x_if_ne 75 52 C dX8_readText_49 rfl rfl hf (fun hf => ?_) (fun hf => ?_)
    · refine x_iload_n 76 C dX8_readText_75 hl 1 rfl rfl ?_
      obtain rfl := Option.some.inj hf
      exact R _ _ _ _ X dX8_readText_76
    refine x_aload_n 53 C dX8_readText_52 hl 0 rfl rfl ?_
    refine x_get 56 C dX8_readText_53 X kf_X8_20 0 rfl rfl rfl ?_
    refine x_aload_n 57 C dX8_readText_56 hl 0 rfl rfl ?_
    refine x_get 60 C dX8_readText_57 X kf_X8_17 0 rfl rfl rfl ?_
    refine x_icmp_ge 75 63 C dX8_readText_60 rfl rfl hf (fun hf => ?_) (fun hf => ?_)
    · refine x_iload_n 76 C dX8_readText_75 hl 1 rfl rfl ?_
      obtain rfl := Option.some.inj hf
      exact R _ _ _ _ X dX8_readText_76
    refine x_aload_n 64 C dX8_readText_63 hl 0 rfl rfl ?_
    refine x_iconst 65 C dX8_readText_64 (0 : Int32) kv_iconst_0 rfl ?_
    obtain ⟨y65, hy65, hf⟩ := kx_bind hf
    refine x_callVi0 68 C dX8_readText_65 X hl kl_X8_39 (c_X8_readPart E.2.1 D T h0 h1 N (0 : Int32) m_size m_plain m_omegas m_end m_place m_plainTold m_omegasTold m_bytes y65 hy65) rfl rfl [] rfl rfl rfl rfl rfl rfl (fun H locs X => ?_)
    refine x_istore_n 69 C dX8_readText_68 [(2, .int y65.1), (0, .ref h0), (3, .int v3)] hl rfl rfl rfl (fun ls hl => ?_)
    refine x_iinc 72 C dX8_readText_69 (1 : Int32) kv_iconst_1 [(3, .int (v3 + (1 : Int32))), (2, .int y65.1), (0, .ref h0)] hl 2 rfl rfl rfl rfl (fun ls hl => ?_)
    refine x_goto 42 C dX8_readText_72 rfl ?_
    exact ih y65.2.1 y65.2.2.1 m_end y65.2.2.2.1 y65.2.2.2.2.1 y65.2.2.2.2.2 y65.1 (v3 + (1 : Int32)) _ _ _ X (lv_sub hl [2, 1, 0] rfl) hf
set_option maxHeartbeats 4000000 in
set_option maxRecDepth 100000 in
theorem c_X8_readText (l : Launch) (D : va_G) (T : KT) (h0 h1 : Nat) (N : Nat) (v1 : Int32) (m_size m_plain m_omegas m_end m_place m_plainTold m_omegasTold : Int32) (m_bytes : Nat → Int32) (x : Int32 × Int32 × Int32 × Int32 × Int32 × Int32 × Int32) (hf : f_X8_readText N v1 m_bytes = some x) : kx_MI l yX8_readText cX8_readText 4 (some .int) 3 68 D T [.ref h0, .int v1] (w1_X8 T h0 h1 m_size m_plain m_omegas m_end m_place m_plainTold m_omegasTold m_bytes) (w1_X8 T h0 h1 m_size x.2.1 x.2.2.1 x.2.2.2.1 x.2.2.2.2.1 x.2.2.2.2.2.1 x.2.2.2.2.2.2 m_bytes) x.1 := by
  refine kx_ofMI RX8 rfl (plainFor_of_name (x := yX8_readText) kpn_X8) rfl ?_
  intro E A H ls _ C X R hl
  have hl : lv_has ls 4 [(0, .ref h0), (1, .int v1)] := hl
  rw [f_X8_readText] at hf
  refine x_aload_n 1 C dX8_readText_0 hl 0 rfl rfl ?_
  refine x_iload_n 2 C dX8_readText_1 hl 1 rfl rfl ?_
  refine x_put 5 C dX8_readText_2 X kp_X8_17 0 rfl rfl rfl rfl (w1_X8 T h0 h1 m_size m_plain m_omegas v1 m_place m_plainTold m_omegasTold m_bytes) rfl rfl (fun H locs X => ?_)
  refine x_aload_n 6 C dX8_readText_5 hl 0 rfl rfl ?_
  refine x_iconst 7 C dX8_readText_6 (0 : Int32) kv_iconst_0 rfl ?_
  refine x_put 10 C dX8_readText_7 X kp_X8_20 0 rfl rfl rfl rfl (w1_X8 T h0 h1 m_size m_plain m_omegas v1 (0 : Int32) m_plainTold m_omegasTold m_bytes) rfl rfl (fun H locs X => ?_)
  refine x_aload_n 11 C dX8_readText_10 hl 0 rfl rfl ?_
  refine x_iconst 12 C dX8_readText_11 (0 : Int32) kv_iconst_0 rfl ?_
  refine x_put 15 C dX8_readText_12 X kp_X8_23 0 rfl rfl rfl rfl (w1_X8 T h0 h1 m_size (0 : Int32) m_omegas v1 (0 : Int32) m_plainTold m_omegasTold m_bytes) rfl rfl (fun H locs X => ?_)
  refine x_aload_n 16 C dX8_readText_15 hl 0 rfl rfl ?_
  refine x_iconst 17 C dX8_readText_16 (0 : Int32) kv_iconst_0 rfl ?_
  refine x_put 20 C dX8_readText_17 X kp_X8_26 0 rfl rfl rfl rfl (w1_X8 T h0 h1 m_size (0 : Int32) (0 : Int32) v1 (0 : Int32) m_plainTold m_omegasTold m_bytes) rfl rfl (fun H locs X => ?_)
  refine x_aload_n 21 C dX8_readText_20 hl 0 rfl rfl ?_
  refine x_iconst 22 C dX8_readText_21 (0 : Int32) kv_iconst_0 rfl ?_
  refine x_put 25 C dX8_readText_22 X kp_X8_29 0 rfl rfl rfl rfl (w1_X8 T h0 h1 m_size (0 : Int32) (0 : Int32) v1 (0 : Int32) (0 : Int32) m_omegasTold m_bytes) rfl rfl (fun H locs X => ?_)
  refine x_aload_n 26 C dX8_readText_25 hl 0 rfl rfl ?_
  refine x_iconst 27 C dX8_readText_26 (0 : Int32) kv_iconst_0 rfl ?_
  refine x_put 30 C dX8_readText_27 X kp_X8_33 0 rfl rfl rfl rfl (w1_X8 T h0 h1 m_size (0 : Int32) (0 : Int32) v1 (0 : Int32) (0 : Int32) (0 : Int32) m_bytes) rfl rfl (fun H locs X => ?_)
  refine x_aload_n 31 C dX8_readText_30 hl 0 rfl rfl ?_
  obtain ⟨y31, hy31, hf⟩ := kx_bind hf
  refine x_callVv0 34 C dX8_readText_31 X hl kl_X8_36 (c_X8_skipBlanks E.2.1 D T h0 h1 N  m_size (0 : Int32) (0 : Int32) v1 (0 : Int32) (0 : Int32) (0 : Int32) m_bytes y31 hy31) rfl rfl [] rfl rfl rfl rfl rfl rfl (fun H locs X => ?_)
  refine x_aload_n 35 C dX8_readText_34 hl 0 rfl rfl ?_
  refine x_iconst 36 C dX8_readText_35 (1 : Int32) kv_iconst_1 rfl ?_
  obtain ⟨y36, hy36, hf⟩ := kx_bind hf
  refine x_callVi0 39 C dX8_readText_36 X hl kl_X8_39 (c_X8_readPart E.2.1 D T h0 h1 N (1 : Int32) m_size (0 : Int32) (0 : Int32) v1 y31 (0 : Int32) (0 : Int32) m_bytes y36 hy36) rfl rfl [] rfl rfl rfl rfl rfl rfl (fun H locs X => ?_)
  refine x_istore_n 40 C dX8_readText_39 [(2, .int y36.1), (0, .ref h0), (1, .int v1)] hl rfl rfl rfl (fun ls hl => ?_)
  refine x_iconst 41 C dX8_readText_40 (0 : Int32) kv_iconst_0 rfl ?_
  refine x_istore_n 42 C dX8_readText_41 [(3, .int (0 : Int32)), (2, .int y36.1), (0, .ref h0), (1, .int v1)] hl rfl rfl rfl (fun ls hl => ?_)
  exact w_X8_readText_42 h0 h1 C N x m_size m_bytes R  N y36.2.1 y36.2.2.1 v1 y36.2.2.2.1 y36.2.2.2.2.1 y36.2.2.2.2.2 y36.1 (0 : Int32) _ _ _ X (lv_sub hl [2, 1, 0] rfl) hf
set_option maxHeartbeats 4000000 in
set_option maxRecDepth 100000 in
theorem c_X0_fill (l : Launch) (D : va_G) (T : KT) (h0 h1 h2 h3 h4 h5 : Nat) (v1 v2 v3 : Int32) (m_full m_kept : Int32) (m_partA m_partB : Nat → Int32) (x : Int32 × (Nat → Int32) × (Nat → Int32)) (hf : f_X0_fill v1 v2 v3 m_full m_partA m_partB = some x) : kx_MV l yX0_fill cX0_fill 4 none 1 20 D T [.ref h0, .int v1, .int v2, .int v3] (w6_X0 T h0 h1 h2 h3 h4 h5 m_full m_kept m_partA m_partB) (w6_X0 T h0 h1 h2 h3 h4 h5 x.1 m_kept x.2.1 x.2.2) := by
  refine kx_ofMV RX0 rfl (plainFor_of_name (x := yX0_fill) kpn_X0) rfl ?_
  intro E A H ls _ C X R hl
  have hl : lv_has ls 4 [(0, .ref h0), (1, .int v1), (2, .int v2), (3, .int v3)] := hl
  rw [f_X0_fill] at hf
  refine x_iload_n 1 C dX0_fill_0 hl 1 rfl rfl ?_
  obtain ⟨y1, hy1, hf⟩ := kx_bind hf
  refine x_callSi 4 C dX0_fill_1 X hl kl_X0_25 (c_X0_isOne E.2.1 D T  v1  y1 hy1) [] rfl rfl rfl rfl rfl cb_6 rfl (fun H locs X => ?_)
  refine x_if_eq 33 7 C dX0_fill_4 rfl rfl hf (fun hf => ?_) (fun hf => ?_)
  · obtain rfl := Option.some.inj hf
    exact R _ _ _ _ X dX0_fill_33
  refine x_aload_n 8 C dX0_fill_7 hl 0 rfl rfl ?_
  refine x_get 11 C dX0_fill_8 X kf_X0_9 0 rfl rfl rfl ?_
  refine x_iload_n 12 C dX0_fill_11 hl 1 rfl rfl ?_
  refine x_iload_n 13 C dX0_fill_12 hl 2 rfl rfl ?_
  refine x_iast 14 C dX0_fill_13 X 1 rfl (w6_X0 T h0 h1 h2 h3 h4 h5 m_full m_kept (upd m_partA (v1).toNatClampNeg v2) m_partB) rfl hf rfl (fun H locs X hf => ?_)
  refine x_aload_n 15 C dX0_fill_14 hl 0 rfl rfl ?_
  refine x_get 18 C dX0_fill_15 X kf_X0_13 0 rfl rfl rfl ?_
  refine x_iload_n 19 C dX0_fill_18 hl 1 rfl rfl ?_
  refine x_iload_n 20 C dX0_fill_19 hl 3 rfl rfl ?_
  refine x_iast 21 C dX0_fill_20 X 2 rfl (w6_X0 T h0 h1 h2 h3 h4 h5 m_full m_kept (upd m_partA (v1).toNatClampNeg v2) (upd m_partB (v1).toNatClampNeg v3)) rfl hf rfl (fun H locs X hf => ?_)
  refine x_aload_n 22 C dX0_fill_21 hl 0 rfl rfl ?_
  refine x_aload_n 23 C dX0_fill_22 hl 0 rfl rfl ?_
  refine x_get 26 C dX0_fill_23 X kf_X0_29 0 rfl rfl rfl ?_
  refine x_iconst 27 C dX0_fill_26 (1 : Int32) kv_iconst_1 rfl ?_
  refine x_iload_n 28 C dX0_fill_27 hl 1 rfl rfl ?_
  refine x_ishl 29 C dX0_fill_28 rfl ?_
  refine x_ior 30 C dX0_fill_29 rfl ?_
  refine x_put 33 C dX0_fill_30 X kp_X0_29 0 rfl rfl rfl rfl (w6_X0 T h0 h1 h2 h3 h4 h5 (m_full ||| ((1 : Int32) <<< (v1 &&& 31))) m_kept (upd m_partA (v1).toNatClampNeg v2) (upd m_partB (v1).toNatClampNeg v3)) rfl rfl (fun H locs X => ?_)
  obtain rfl := Option.some.inj hf
  exact R _ _ _ _ X dX0_fill_33
set_option maxHeartbeats 4000000 in
set_option maxRecDepth 100000 in
theorem c_X10_write (l : Launch) (D : va_G) (T : KT) (h : Nat → Nat) (N : Nat) (v1 v2 : Int32) (m_drawers_full m_drawers_kept : Int32) (m_drawers_partA m_drawers_partB m_drawers_keptA m_drawers_keptB m_drawers_keptFull : Nat → Int32) (m_tape_size m_tape_plain m_tape_omegas m_tape_end m_tape_place m_tape_plainTold m_tape_omegasTold : Int32) (m_tape_bytes : Nat → Int32) (m_euclid_count : Int32) (m_euclid_last_a m_euclid_last_b m_euclid_lastOfFirst_a m_euclid_lastOfFirst_b m_euclid_lastOfSecond_a m_euclid_lastOfSecond_b m_euclid_next_a m_euclid_next_b m_euclid_nextOfFirst_a m_euclid_nextOfFirst_b m_euclid_nextOfSecond_a m_euclid_nextOfSecond_b m_euclid_q_a m_euclid_q_b : Int64) (m_euclid_quotientA m_euclid_quotientB : Nat → Int64) (m_modulus_step m_modulus_width m_modulus_slant m_modulus_square_a m_modulus_square_b : Int64) (m_factors_count m_factors_threes m_factors_unit : Int32) (m_factors_primeA m_factors_primeB m_factors_norms : Nat → Int64) (m_factors_euclid_count : Int32) (m_factors_euclid_last_a m_factors_euclid_last_b m_factors_euclid_lastOfFirst_a m_factors_euclid_lastOfFirst_b m_factors_euclid_lastOfSecond_a m_factors_euclid_lastOfSecond_b m_factors_euclid_next_a m_factors_euclid_next_b m_factors_euclid_nextOfFirst_a m_factors_euclid_nextOfFirst_b m_factors_euclid_nextOfSecond_a m_factors_euclid_nextOfSecond_b m_factors_euclid_q_a m_factors_euclid_q_b : Int64) (m_factors_euclid_quotientA m_factors_euclid_quotientB : Nat → Int64) (m_factors_left_a m_factors_left_b m_factors_found_a m_factors_found_b m_factors_product_a m_factors_product_b : Int64) (m_primes_count : Int32) (m_primes_primeA m_primes_primeB : Nat → Int32) (m_primes_found_a m_primes_found_b : Int64) (m_rings_foundA m_rings_foundB m_rings_all m_rings_mostOfOneRow m_letters_count : Int32) (m_letters_bytes : Nat → Int32) (m_one_a m_one_b m_two_a m_two_b m_three_a m_three_b m_four_a m_four_b m_out_a m_out_b m_spare_a m_spare_b : Int64) (m_marks : Nat → Int32) (x : Int32 × Int32 × (Nat → Int32) × (Nat → Int32) × Int32 × Int32 × Int32 × Int32 × Int32 × Int32 × Int32) (hf : f_X10_write N v1 v2 m_drawers_full m_drawers_partA m_drawers_partB m_tape_size m_tape_plain m_tape_omegas m_tape_end m_tape_place m_tape_plainTold m_tape_omegasTold m_tape_bytes = some x) : kx_MI l yX10_write cX10_write 4 (some .int) 4 91 D T [.ref (h 0), .int v1, .int v2] (wC T h m_drawers_full m_drawers_kept m_drawers_partA m_drawers_partB m_drawers_keptA m_drawers_keptB m_drawers_keptFull m_tape_size m_tape_plain m_tape_omegas m_tape_end m_tape_place m_tape_plainTold m_tape_omegasTold m_tape_bytes m_euclid_count m_euclid_last_a m_euclid_last_b m_euclid_lastOfFirst_a m_euclid_lastOfFirst_b m_euclid_lastOfSecond_a m_euclid_lastOfSecond_b m_euclid_next_a m_euclid_next_b m_euclid_nextOfFirst_a m_euclid_nextOfFirst_b m_euclid_nextOfSecond_a m_euclid_nextOfSecond_b m_euclid_q_a m_euclid_q_b m_euclid_quotientA m_euclid_quotientB m_modulus_step m_modulus_width m_modulus_slant m_modulus_square_a m_modulus_square_b m_factors_count m_factors_threes m_factors_unit m_factors_primeA m_factors_primeB m_factors_norms m_factors_euclid_count m_factors_euclid_last_a m_factors_euclid_last_b m_factors_euclid_lastOfFirst_a m_factors_euclid_lastOfFirst_b m_factors_euclid_lastOfSecond_a m_factors_euclid_lastOfSecond_b m_factors_euclid_next_a m_factors_euclid_next_b m_factors_euclid_nextOfFirst_a m_factors_euclid_nextOfFirst_b m_factors_euclid_nextOfSecond_a m_factors_euclid_nextOfSecond_b m_factors_euclid_q_a m_factors_euclid_q_b m_factors_euclid_quotientA m_factors_euclid_quotientB m_factors_left_a m_factors_left_b m_factors_found_a m_factors_found_b m_factors_product_a m_factors_product_b m_primes_count m_primes_primeA m_primes_primeB m_primes_found_a m_primes_found_b m_rings_foundA m_rings_foundB m_rings_all m_rings_mostOfOneRow m_letters_count m_letters_bytes m_one_a m_one_b m_two_a m_two_b m_three_a m_three_b m_four_a m_four_b m_out_a m_out_b m_spare_a m_spare_b m_marks) (wC T h x.2.1 m_drawers_kept x.2.2.1 x.2.2.2.1 m_drawers_keptA m_drawers_keptB m_drawers_keptFull x.2.2.2.2.1 x.2.2.2.2.2.1 x.2.2.2.2.2.2.1 x.2.2.2.2.2.2.2.1 x.2.2.2.2.2.2.2.2.1 x.2.2.2.2.2.2.2.2.2.1 x.2.2.2.2.2.2.2.2.2.2 m_tape_bytes m_euclid_count m_euclid_last_a m_euclid_last_b m_euclid_lastOfFirst_a m_euclid_lastOfFirst_b m_euclid_lastOfSecond_a m_euclid_lastOfSecond_b m_euclid_next_a m_euclid_next_b m_euclid_nextOfFirst_a m_euclid_nextOfFirst_b m_euclid_nextOfSecond_a m_euclid_nextOfSecond_b m_euclid_q_a m_euclid_q_b m_euclid_quotientA m_euclid_quotientB m_modulus_step m_modulus_width m_modulus_slant m_modulus_square_a m_modulus_square_b m_factors_count m_factors_threes m_factors_unit m_factors_primeA m_factors_primeB m_factors_norms m_factors_euclid_count m_factors_euclid_last_a m_factors_euclid_last_b m_factors_euclid_lastOfFirst_a m_factors_euclid_lastOfFirst_b m_factors_euclid_lastOfSecond_a m_factors_euclid_lastOfSecond_b m_factors_euclid_next_a m_factors_euclid_next_b m_factors_euclid_nextOfFirst_a m_factors_euclid_nextOfFirst_b m_factors_euclid_nextOfSecond_a m_factors_euclid_nextOfSecond_b m_factors_euclid_q_a m_factors_euclid_q_b m_factors_euclid_quotientA m_factors_euclid_quotientB m_factors_left_a m_factors_left_b m_factors_found_a m_factors_found_b m_factors_product_a m_factors_product_b m_primes_count m_primes_primeA m_primes_primeB m_primes_found_a m_primes_found_b m_rings_foundA m_rings_foundB m_rings_all m_rings_mostOfOneRow m_letters_count m_letters_bytes m_one_a m_one_b m_two_a m_two_b m_three_a m_three_b m_four_a m_four_b m_out_a m_out_b m_spare_a m_spare_b m_marks) x.1 := by
  refine kx_ofMI RX10 rfl (plainFor_of_name (x := yX10_write) kpn_X10) rfl ?_
  intro E A H ls _ C X R hl
  have hl : lv_has ls 4 [(0, .ref (h 0)), (1, .int v1), (2, .int v2)] := hl
  rw [f_X10_write] at hf
  refine x_iload_n 1 C dX10_write_0 hl 1 rfl rfl ?_
  obtain ⟨y1, hy1, hf⟩ := kx_bind hf
  refine x_callSi 4 C dX10_write_1 X hl kl_X10_105 (c_X0_isOne E.2.1 D T  v1  y1 hy1) [] rfl rfl rfl rfl rfl cb_2 rfl (fun H locs X => ?_)
  refine x_if_eq 29 7 C dX10_write_4 rfl rfl hf (fun hf => ?_) (fun hf => ?_)
  · refine x_iconst 30 C dX10_write_29 (-1 : Int32) kv_iconst_m1 rfl ?_
    obtain rfl := Option.some.inj hf
    exact R _ _ _ _ X dX10_write_30
  refine x_iload_n 8 C dX10_write_7 hl 2 rfl rfl ?_
  refine x_iconst 9 C dX10_write_8 (1 : Int32) kv_iconst_1 rfl ?_
  refine x_icmp_lt 29 12 C dX10_write_9 rfl rfl hf (fun hf => ?_) (fun hf => ?_)
  · refine x_iconst 30 C dX10_write_29 (-1 : Int32) kv_iconst_m1 rfl ?_
    obtain rfl := Option.some.inj hf
    exact R _ _ _ _ X dX10_write_30
  refine x_iload_n 13 C dX10_write_12 hl 2 rfl rfl ?_
  refine x_bipush 15 C dX10_write_13 (40 : Int32) kv_bipush_40 rfl ?_
  refine x_icmp_gt 29 18 C dX10_write_15 rfl rfl hf (fun hf => ?_) (fun hf => ?_)
  · refine x_iconst 30 C dX10_write_29 (-1 : Int32) kv_iconst_m1 rfl ?_
    obtain rfl := Option.some.inj hf
    exact R _ _ _ _ X dX10_write_30
  refine x_iload_n 19 C dX10_write_18 hl 2 rfl rfl ?_
  refine x_aload_n 20 C dX10_write_19 hl 0 rfl rfl ?_
  refine x_get 23 C dX10_write_20 X kf_X10_21 0 rfl rfl rfl ?_
  refine x_get 26 C dX10_write_23 X kf_X10_101 7 rfl rfl rfl ?_
  refine x_icmp_le 31 29 C dX10_write_26 rfl rfl hf (fun hf => ?_) (fun hf => ?_)
  · refine x_aload_n 32 C dX10_write_31 hl 0 rfl rfl ?_
    refine x_get 35 C dX10_write_32 X kf_X10_21 0 rfl rfl rfl ?_
    refine x_iload_n 36 C dX10_write_35 hl 2 rfl rfl ?_
    obtain ⟨y36, hy36, hf⟩ := kx_bind hf
    refine x_callVi 39 C dX10_write_36 X hl kl_X10_108 (c_X8_readText E.2.1 D T (h 7) (h 8) N v2 m_tape_size m_tape_plain m_tape_omegas m_tape_end m_tape_place m_tape_plainTold m_tape_omegasTold m_tape_bytes y36 hy36) rfl rfl [] rfl rfl rfl rfl rfl cb_1 rfl (fun H locs X => ?_)
    refine x_istore_n 40 C dX10_write_39 [(3, .int y36.1), (0, .ref (h 0)), (1, .int v1), (2, .int v2)] hl rfl rfl rfl (fun ls hl => ?_)
    refine x_aload_n 41 C dX10_write_40 hl 1 rfl rfl ?_
    refine x_get 44 C dX10_write_41 X kf_X10_21 0 rfl rfl rfl ?_
    refine x_iconst 45 C dX10_write_44 (0 : Int32) kv_iconst_0 rfl ?_
    refine x_put 48 C dX10_write_45 X kp_X10_101 7 rfl rfl rfl rfl (wC T h m_drawers_full m_drawers_kept m_drawers_partA m_drawers_partB m_drawers_keptA m_drawers_keptB m_drawers_keptFull (0 : Int32) y36.2.1 y36.2.2.1 y36.2.2.2.1 y36.2.2.2.2.1 y36.2.2.2.2.2.1 y36.2.2.2.2.2.2 m_tape_bytes m_euclid_count m_euclid_last_a m_euclid_last_b m_euclid_lastOfFirst_a m_euclid_lastOfFirst_b m_euclid_lastOfSecond_a m_euclid_lastOfSecond_b m_euclid_next_a m_euclid_next_b m_euclid_nextOfFirst_a m_euclid_nextOfFirst_b m_euclid_nextOfSecond_a m_euclid_nextOfSecond_b m_euclid_q_a m_euclid_q_b m_euclid_quotientA m_euclid_quotientB m_modulus_step m_modulus_width m_modulus_slant m_modulus_square_a m_modulus_square_b m_factors_count m_factors_threes m_factors_unit m_factors_primeA m_factors_primeB m_factors_norms m_factors_euclid_count m_factors_euclid_last_a m_factors_euclid_last_b m_factors_euclid_lastOfFirst_a m_factors_euclid_lastOfFirst_b m_factors_euclid_lastOfSecond_a m_factors_euclid_lastOfSecond_b m_factors_euclid_next_a m_factors_euclid_next_b m_factors_euclid_nextOfFirst_a m_factors_euclid_nextOfFirst_b m_factors_euclid_nextOfSecond_a m_factors_euclid_nextOfSecond_b m_factors_euclid_q_a m_factors_euclid_q_b m_factors_euclid_quotientA m_factors_euclid_quotientB m_factors_left_a m_factors_left_b m_factors_found_a m_factors_found_b m_factors_product_a m_factors_product_b m_primes_count m_primes_primeA m_primes_primeB m_primes_found_a m_primes_found_b m_rings_foundA m_rings_foundB m_rings_all m_rings_mostOfOneRow m_letters_count m_letters_bytes m_one_a m_one_b m_two_a m_two_b m_three_a m_three_b m_four_a m_four_b m_out_a m_out_b m_spare_a m_spare_b m_marks) rfl rfl (fun H locs X => ?_)
    refine x_iload_n 49 C dX10_write_48 hl 0 rfl rfl ?_
    refine x_if_ne 74 52 C dX10_write_49 rfl rfl hf (fun hf => ?_) (fun hf => ?_)
    · refine x_iload_n 75 C dX10_write_74 hl 0 rfl rfl ?_
      obtain rfl := Option.some.inj hf
      exact R _ _ _ _ X dX10_write_75
    refine x_aload_n 53 C dX10_write_52 hl 1 rfl rfl ?_
    refine x_get 56 C dX10_write_53 X kf_X10_12 0 rfl rfl rfl ?_
    refine x_iload_n 57 C dX10_write_56 hl 2 rfl rfl ?_
    refine x_aload_n 58 C dX10_write_57 hl 1 rfl rfl ?_
    refine x_get 61 C dX10_write_58 X kf_X10_21 0 rfl rfl rfl ?_
    refine x_get 64 C dX10_write_61 X kf_X10_112 7 rfl rfl rfl ?_
    refine x_aload_n 65 C dX10_write_64 hl 1 rfl rfl ?_
    refine x_get 68 C dX10_write_65 X kf_X10_21 0 rfl rfl rfl ?_
    refine x_get 71 C dX10_write_68 X kf_X10_115 7 rfl rfl rfl ?_
    obtain ⟨y71, hy71, hf⟩ := kx_bind hf
    refine x_callVv 74 C dX10_write_71 X hl kl_X10_118 (c_X0_fill E.2.1 D T (h 1) (h 2) (h 3) (h 4) (h 5) (h 6) v1 y36.2.1 y36.2.2.1 m_drawers_full m_drawers_kept m_drawers_partA m_drawers_partB y71 hy71) rfl rfl [] rfl rfl rfl rfl rfl cb_3 rfl (fun H locs X => ?_)
    refine x_iload_n 75 C dX10_write_74 hl 0 rfl rfl ?_
    obtain rfl := Option.some.inj hf
    exact R _ _ _ _ X dX10_write_75
  refine x_iconst 30 C dX10_write_29 (-1 : Int32) kv_iconst_m1 rfl ?_
  obtain rfl := Option.some.inj hf
  exact R _ _ _ _ X dX10_write_30
set_option maxHeartbeats 4000000 in
set_option maxRecDepth 100000 in
theorem c_X11_isDigit (l : Launch) (D : va_G) (T : KT)  (v0 : Int32)  (x : Int32) (hf : f_X11_isDigit v0 = some x) : kx_MI l yX11_isDigit cX11_isDigit 1 (some .boolean) 0 0 D T [.int v0] (w4_ T  ) (w4_ T  ) x := by
  refine kx_ofMZ RX11 rfl (plainFor_of_name (x := yX11_isDigit) kpn_X11) rfl ?_
  intro E A H ls _ C X R hl
  have hl : lv_has ls 1 [(0, .int v0)] := hl
  rw [f_X11_isDigit] at hf
  refine x_iload_n 1 C dX11_isDigit_0 hl 0 rfl rfl ?_
  refine x_bipush 3 C dX11_isDigit_1 (48 : Int32) kv_bipush_48 rfl ?_
  refine x_icmp_lt 16 6 C dX11_isDigit_3 rfl rfl hf (fun hf => ?_) (fun hf => ?_)
  · refine x_iconst 17 C dX11_isDigit_16 (0 : Int32) kv_iconst_0 rfl ?_
    obtain rfl := Option.some.inj hf
    exact R _ _ _ _ X kb_0 dX11_isDigit_17
  refine x_iload_n 7 C dX11_isDigit_6 hl 0 rfl rfl ?_
  refine x_bipush 9 C dX11_isDigit_7 (57 : Int32) kv_bipush_57 rfl ?_
  refine x_icmp_gt 16 12 C dX11_isDigit_9 rfl rfl hf (fun hf => ?_) (fun hf => ?_)
  · refine x_iconst 17 C dX11_isDigit_16 (0 : Int32) kv_iconst_0 rfl ?_
    obtain rfl := Option.some.inj hf
    exact R _ _ _ _ X kb_0 dX11_isDigit_17
  refine x_iconst 13 C dX11_isDigit_12 (1 : Int32) kv_iconst_1 rfl ?_
  refine x_goto 17 C dX11_isDigit_13 rfl ?_
  obtain rfl := Option.some.inj hf
  exact R _ _ _ _ X kb_1 dX11_isDigit_17
set_option maxHeartbeats 4000000 in
set_option maxRecDepth 100000 in
theorem c_X11_puts (l : Launch) (D : va_G) (T : KT) (h : Nat → Nat) (v1 : Int32) (v2 v4 : Int64) (m_taped m_states : Int32) (m_ra m_rb : Int64) (m_threes m_primes m_ones m_unit : Int32) (m_allParts m_allNorms m_allClasses : Int64) (m_odd : Int32) (m_boxWide m_boxHigh m_boxStep : Int64) (m_partingMany : Int32) (m_qa m_qb m_la m_lb m_sa m_sb m_ta m_tb : Int64) (m_listed m_tells m_wanted m_found : Int32) (m_bits : Int64) (m_power2 m_rings m_ringA m_ringB m_seedNow : Int32) (m_tape m_has m_keptHas m_first m_second m_keptFirst m_keptSecond m_pa m_pb m_pNorm m_cubed m_isOpen m_signs m_often m_la0 m_lb0 : Nat → Int32) (x : (Nat → Int32) × (Nat → Int32) × (Nat → Int32)) (hf : f_X11_puts v1 v2 v4 m_has m_first m_second = some x) : kx_MV l yX11_puts cX11_puts 6 none 0 0 D T [.ref (h 0), .int v1, .long v2, .long v4] (wM T h m_taped m_states m_ra m_rb m_threes m_primes m_ones m_unit m_allParts m_allNorms m_allClasses m_odd m_boxWide m_boxHigh m_boxStep m_partingMany m_qa m_qb m_la m_lb m_sa m_sb m_ta m_tb m_listed m_tells m_wanted m_found m_bits m_power2 m_rings m_ringA m_ringB m_seedNow m_tape m_has m_keptHas m_first m_second m_keptFirst m_keptSecond m_pa m_pb m_pNorm m_cubed m_isOpen m_signs m_often m_la0 m_lb0) (wM T h m_taped m_states m_ra m_rb m_threes m_primes m_ones m_unit m_allParts m_allNorms m_allClasses m_odd m_boxWide m_boxHigh m_boxStep m_partingMany m_qa m_qb m_la m_lb m_sa m_sb m_ta m_tb m_listed m_tells m_wanted m_found m_bits m_power2 m_rings m_ringA m_ringB m_seedNow m_tape x.1 m_keptHas x.2.1 x.2.2 m_keptFirst m_keptSecond m_pa m_pb m_pNorm m_cubed m_isOpen m_signs m_often m_la0 m_lb0) := by
  refine kx_ofMV RX11 rfl (plainFor_of_name (x := yX11_puts) kpn_X11) rfl ?_
  intro E A H ls _ C X R hl
  have hl : lv_has ls 6 [(0, .ref (h 0)), (1, .int v1), (2, .long v2), (4, .long v4)] := hl
  rw [f_X11_puts] at hf
  refine x_aload_n 1 C dX11_puts_0 hl 0 rfl rfl ?_
  refine x_get 4 C dX11_puts_1 X kf_X11_13 0 rfl rfl rfl ?_
  refine x_iload_n 5 C dX11_puts_4 hl 1 rfl rfl ?_
  refine x_iconst 6 C dX11_puts_5 (1 : Int32) kv_iconst_1 rfl ?_
  refine x_zast 7 C dX11_puts_6 X 2 rfl (wM T h m_taped m_states m_ra m_rb m_threes m_primes m_ones m_unit m_allParts m_allNorms m_allClasses m_odd m_boxWide m_boxHigh m_boxStep m_partingMany m_qa m_qb m_la m_lb m_sa m_sb m_ta m_tb m_listed m_tells m_wanted m_found m_bits m_power2 m_rings m_ringA m_ringB m_seedNow m_tape (upd m_has (v1).toNatClampNeg ((1 : Int32) &&& 1)) m_keptHas m_first m_second m_keptFirst m_keptSecond m_pa m_pb m_pNorm m_cubed m_isOpen m_signs m_often m_la0 m_lb0) rfl hf rfl (fun H locs X hf => ?_)
  refine x_aload_n 8 C dX11_puts_7 hl 0 rfl rfl ?_
  refine x_get 11 C dX11_puts_8 X kf_X11_20 0 rfl rfl rfl ?_
  refine x_iload_n 12 C dX11_puts_11 hl 1 rfl rfl ?_
  refine x_lload_n 13 C dX11_puts_12 hl 2 rfl rfl ?_
  refine x_l2i 14 C dX11_puts_13 rfl ?_
  refine x_iast 15 C dX11_puts_14 X 4 rfl (wM T h m_taped m_states m_ra m_rb m_threes m_primes m_ones m_unit m_allParts m_allNorms m_allClasses m_odd m_boxWide m_boxHigh m_boxStep m_partingMany m_qa m_qb m_la m_lb m_sa m_sb m_ta m_tb m_listed m_tells m_wanted m_found m_bits m_power2 m_rings m_ringA m_ringB m_seedNow m_tape (upd m_has (v1).toNatClampNeg ((1 : Int32) &&& 1)) m_keptHas (upd m_first (v1).toNatClampNeg (v2).toInt32) m_second m_keptFirst m_keptSecond m_pa m_pb m_pNorm m_cubed m_isOpen m_signs m_often m_la0 m_lb0) rfl hf rfl (fun H locs X hf => ?_)
  refine x_aload_n 16 C dX11_puts_15 hl 0 rfl rfl ?_
  refine x_get 19 C dX11_puts_16 X kf_X11_24 0 rfl rfl rfl ?_
  refine x_iload_n 20 C dX11_puts_19 hl 1 rfl rfl ?_
  refine x_lload 22 C dX11_puts_20 hl 3 rfl rfl ?_
  refine x_l2i 23 C dX11_puts_22 rfl ?_
  refine x_iast 24 C dX11_puts_23 X 5 rfl (wM T h m_taped m_states m_ra m_rb m_threes m_primes m_ones m_unit m_allParts m_allNorms m_allClasses m_odd m_boxWide m_boxHigh m_boxStep m_partingMany m_qa m_qb m_la m_lb m_sa m_sb m_ta m_tb m_listed m_tells m_wanted m_found m_bits m_power2 m_rings m_ringA m_ringB m_seedNow m_tape (upd m_has (v1).toNatClampNeg ((1 : Int32) &&& 1)) m_keptHas (upd m_first (v1).toNatClampNeg (v2).toInt32) (upd m_second (v1).toNatClampNeg (v4).toInt32) m_keptFirst m_keptSecond m_pa m_pb m_pNorm m_cubed m_isOpen m_signs m_often m_la0 m_lb0) rfl hf rfl (fun H locs X hf => ?_)
  obtain rfl := Option.some.inj hf
  exact R _ _ _ _ X dX11_puts_24
set_option maxHeartbeats 4000000 in
set_option maxRecDepth 100000 in
theorem c_X11_in (l : Launch) (D : va_G) (T : KT)  (v0 v2 v4 : Int64)  (x : Int32) (hf : f_X11_in v0 v2 v4 = some x) : kx_MI l yX11_in cX11_in 6 (some .boolean) 0 0 D T [.long v0, .long v2, .long v4] (w4_ T  ) (w4_ T  ) x := by
  refine kx_ofMZ RX11 rfl (plainFor_of_name (x := yX11_in) kpn_X11) rfl ?_
  intro E A H ls _ C X R hl
  have hl : lv_has ls 6 [(0, .long v0), (2, .long v2), (4, .long v4)] := hl
  rw [f_X11_in] at hf
  refine x_lload_n 1 C dX11_in_0 hl 0 rfl rfl ?_
  refine x_lload_n 2 C dX11_in_1 hl 1 rfl rfl ?_
  refine x_lcmp_lt 17 3 6 C dX11_in_2 dX11_in_3 rfl rfl rfl hf (fun hf => ?_) (fun hf => ?_)
  · refine x_iconst 18 C dX11_in_17 (0 : Int32) kv_iconst_0 rfl ?_
    obtain rfl := Option.some.inj hf
    exact R _ _ _ _ X kb_0 dX11_in_18
  refine x_lload_n 7 C dX11_in_6 hl 0 rfl rfl ?_
  refine x_lload 9 C dX11_in_7 hl 2 rfl rfl ?_
  refine x_lcmp_gt 17 10 13 C dX11_in_9 dX11_in_10 rfl rfl rfl hf (fun hf => ?_) (fun hf => ?_)
  · refine x_iconst 18 C dX11_in_17 (0 : Int32) kv_iconst_0 rfl ?_
    obtain rfl := Option.some.inj hf
    exact R _ _ _ _ X kb_0 dX11_in_18
  refine x_iconst 14 C dX11_in_13 (1 : Int32) kv_iconst_1 rfl ?_
  refine x_goto 18 C dX11_in_14 rfl ?_
  obtain rfl := Option.some.inj hf
  exact R _ _ _ _ X kb_1 dX11_in_18
set_option maxHeartbeats 4000000 in
set_option maxRecDepth 100000 in
theorem c_X11_isDrawer (l : Launch) (D : va_G) (T : KT)  (v0 : Int32)  (x : Int32) (hf : f_X11_isDrawer v0 = some x) : kx_MI l yX11_isDrawer cX11_isDrawer 1 (some .boolean) 1 25 D T [.int v0] (w4_ T  ) (w4_ T  ) x := by
  refine kx_ofMZ RX11 rfl (plainFor_of_name (x := yX11_isDrawer) kpn_X11) rfl ?_
  intro E A H ls _ C X R hl
  have hl : lv_has ls 1 [(0, .int v0)] := hl
  rw [f_X11_isDrawer] at hf
  refine x_iload_n 1 C dX11_isDrawer_0 hl 0 rfl rfl ?_
  refine x_i2l 2 C dX11_isDrawer_1 rfl ?_
  refine x_lconst 3 C dX11_isDrawer_2 (0 : Int64) kv_lconst_0 rfl ?_
  refine x_ldc2_w 6 C dX11_isDrawer_3 (7 : Int64) kc_X11_75 rfl ?_
  obtain ⟨y6, hy6, hf⟩ := kx_bind hf
  refine x_callSi0 9 C dX11_isDrawer_6 X hl kl_X11_77 (c_X11_in E.2.1 D T  (v0).toInt64 (0 : Int64) (7 : Int64)  y6 hy6) [] rfl rfl rfl rfl rfl rfl (fun H locs X => ?_)
  refine kx_sw hf (fun hz hf => ?_) (fun _ hf => by cases hf)
  obtain rfl := Option.some.inj hf
  exact R _ _ _ _ X hz dX11_isDrawer_9
set_option maxHeartbeats 4000000 in
set_option maxRecDepth 100000 in
theorem w_X11_write_404 {E : KE} {A : Nat → Prop} {D : va_G} {T : KT} (h : Nat → Nat) (C : kx_C E cX11_write 16 (some .int) RX11 2 45 D T) (N : Nat) (x : Int32 × Int32 × (Nat → Int32) × (Nat → Int32) × (Nat → Int32)) (m_states : Int32) (m_ra m_rb : Int64) (m_threes m_primes m_ones m_unit : Int32) (m_allParts m_allNorms m_allClasses : Int64) (m_odd : Int32) (m_boxWide m_boxHigh m_boxStep : Int64) (m_partingMany : Int32) (m_qa m_qb m_la m_lb m_sa m_sb m_ta m_tb : Int64) (m_listed m_tells m_wanted m_found : Int32) (m_bits : Int64) (m_power2 m_rings m_ringA m_ringB m_seedNow : Int32) (m_tape m_keptHas m_keptFirst m_keptSecond m_pa m_pb m_pNorm m_cubed m_isOpen m_signs m_often m_la0 m_lb0 : Nat → Int32) (R : kx_RI E cX11_write D A (wM T h x.2.1 m_states m_ra m_rb m_threes m_primes m_ones m_unit m_allParts m_allNorms m_allClasses m_odd m_boxWide m_boxHigh m_boxStep m_partingMany m_qa m_qb m_la m_lb m_sa m_sb m_ta m_tb m_listed m_tells m_wanted m_found m_bits m_power2 m_rings m_ringA m_ringB m_seedNow m_tape x.2.2.1 m_keptHas x.2.2.2.1 x.2.2.2.2 m_keptFirst m_keptSecond m_pa m_pb m_pNorm m_cubed m_isOpen m_signs m_often m_la0 m_lb0) x.1) (k51 : Int32 → Int32 → Int32 → Int32 → Int32 → Int32 → Int32 → Int32 → Int32 → (Nat → Int32) → (Nat → Int32) → (Nat → Int32) → (Nat → Int32) → Option (Int32 × Int32 × (Nat → Int32) × (Nat → Int32) × (Nat → Int32))) (hk51 : ∀ (m_taped : Int32) (m_has m_first m_second : Nat → Int32) (v1 v2 v3 v4 v5 v6 v7 v8 : Int32) (H : Heap) (locs : List Loc) (ls : Array Slot), kx_H E D A H locs (wM T h m_taped m_states m_ra m_rb m_threes m_primes m_ones m_unit m_allParts m_allNorms m_allClasses m_odd m_boxWide m_boxHigh m_boxStep m_partingMany m_qa m_qb m_la m_lb m_sa m_sb m_ta m_tb m_listed m_tells m_wanted m_found m_bits m_power2 m_rings m_ringA m_ringB m_seedNow m_tape m_has m_keptHas m_first m_second m_keptFirst m_keptSecond m_pa m_pb m_pNorm m_cubed m_isOpen m_signs m_often m_la0 m_lb0) → lv_has ls 16 [(0, .ref (h 0)), (1, .int v1), (2, .int v2), (3, .int v3), (4, .int v4), (5, .int v5), (6, .int v6), (7, .int v7), (8, .int v8)] → k51 v1 v2 v3 v4 v5 v6 v7 v8 m_taped m_tape m_has m_first m_second = some x → kx_W E H locs 51 ls []) : ∀ (k : Nat), ∀ (m_taped : Int32) (m_has m_first m_second : Nat → Int32) (v1 v2 v3 v4 v5 v6 v7 : Int32) (H : Heap) (locs : List Loc) (ls : Array Slot), kx_H E D A H locs (wM T h m_taped m_states m_ra m_rb m_threes m_primes m_ones m_unit m_allParts m_allNorms m_allClasses m_odd m_boxWide m_boxHigh m_boxStep m_partingMany m_qa m_qb m_la m_lb m_sa m_sb m_ta m_tb m_listed m_tells m_wanted m_found m_bits m_power2 m_rings m_ringA m_ringB m_seedNow m_tape m_has m_keptHas m_first m_second m_keptFirst m_keptSecond m_pa m_pb m_pNorm m_cubed m_isOpen m_signs m_often m_la0 m_lb0) → lv_has ls 16 [(0, .ref (h 0)), (1, .int v1), (2, .int v2), (3, .int v3), (4, .int v4), (5, .int v5), (6, .int v6), (7, .int v7)] → f_X11_write_404 N k51 k v1 v2 v3 v4 v5 v6 v7 m_taped m_tape m_has m_first m_second = some x → kx_W E H locs 404 ls [] := by
  intro k
  induction k with
  | zero =>
    intro m_taped m_has m_first m_second v1 v2 v3 v4 v5 v6 v7 H locs ls X hl hf
    cases (show (none : Option (Int32 × Int32 × (Nat → Int32) × (Nat → Int32) × (Nat → Int32))) = some x from hf)
  | succ k ih =>
    intro m_taped m_has m_first m_second v1 v2 v3 v4 v5 v6 v7 H locs ls X hl hf
    rw [f_X11_write_404] at hf
    refine x_iload_n 405 C dX11_write_404 hl 3 rfl rfl ?_
    refine x_iload_n 406 C dX11_write_405 hl 2 rfl rfl ?_
    refine x_icmp_ge 434 409 C dX11_write_406 rfl rfl hf (fun hf => ?_) (fun hf => ?_)
    · refine x_iload_n 435 C dX11_write_434 hl 3 rfl rfl ?_
      refine x_iload_n 436 C dX11_write_435 hl 2 rfl rfl ?_
      refine x_icmp_ge 443 439 C dX11_write_436 rfl rfl hf (fun hf => ?_) (fun hf => ?_)
      · refine x_iconst 444 C dX11_write_443 (0 : Int32) kv_iconst_0 rfl ?_
        refine x_istore 446 C dX11_write_444 [(8, .int (0 : Int32)), (0, .ref (h 0)), (1, .int v1), (2, .int v2), (3, .int v3), (4, .int v4), (5, .int v5), (6, .int v6), (7, .int v7)] hl rfl rfl rfl (fun ls hl => ?_)
        refine x_goto 51 C dX11_write_446 rfl ?_
        exact hk51 m_taped m_has m_first m_second v1 v2 v3 v4 v5 v6 v7 (0 : Int32) _ _ _ X (lv_sub hl [1, 2, 3, 4, 5, 6, 7, 8, 0] rfl) hf
      refine x_iconst 440 C dX11_write_439 (1 : Int32) kv_iconst_1 rfl ?_
      refine x_goto 444 C dX11_write_440 rfl ?_
      refine x_istore 446 C dX11_write_444 [(8, .int (1 : Int32)), (0, .ref (h 0)), (1, .int v1), (2, .int v2), (3, .int v3), (4, .int v4), (5, .int v5), (6, .int v6), (7, .int v7)] hl rfl rfl rfl (fun ls hl => ?_)
      refine x_goto 51 C dX11_write_446 rfl ?_
      exact hk51 m_taped m_has m_first m_second v1 v2 v3 v4 v5 v6 v7 (1 : Int32) _ _ _ X (lv_sub hl [1, 2, 3, 4, 5, 6, 7, 8, 0] rfl) hf
    refine x_aload_n 410 C dX11_write_409 hl 0 rfl rfl ?_
    refine x_get 413 C dX11_write_410 X kf_X11_7 0 rfl rfl rfl ?_
    refine x_iload_n 414 C dX11_write_413 hl 3 rfl rfl ?_
    refine x_bald 415 C dX11_write_414 X 1 rfl hf rfl (fun hf => ?_)
    refine x_bipush 417 C dX11_write_415 (32 : Int32) kv_bipush_32 rfl ?_
    refine x_icmp_ne 434 420 C dX11_write_417 rfl rfl hf (fun hf => ?_) (fun hf => ?_)
    · refine x_iload_n 435 C dX11_write_434 hl 3 rfl rfl ?_
      refine x_iload_n 436 C dX11_write_435 hl 2 rfl rfl ?_
      refine x_icmp_ge 443 439 C dX11_write_436 rfl rfl hf (fun hf => ?_) (fun hf => ?_)
      · refine x_iconst 444 C dX11_write_443 (0 : Int32) kv_iconst_0 rfl ?_
        refine x_istore 446 C dX11_write_444 [(8, .int (0 : Int32)), (0, .ref (h 0)), (1, .int v1), (2, .int v2), (3, .int v3), (4, .int v4), (5, .int v5), (6, .int v6), (7, .int v7)] hl rfl rfl rfl (fun ls hl => ?_)
        refine x_goto 51 C dX11_write_446 rfl ?_
        exact hk51 m_taped m_has m_first m_second v1 v2 v3 v4 v5 v6 v7 (0 : Int32) _ _ _ X (lv_sub hl [1, 2, 3, 4, 5, 6, 7, 8, 0] rfl) hf
      refine x_iconst 440 C dX11_write_439 (1 : Int32) kv_iconst_1 rfl ?_
      refine x_goto 444 C dX11_write_440 rfl ?_
      refine x_istore 446 C dX11_write_444 [(8, .int (1 : Int32)), (0, .ref (h 0)), (1, .int v1), (2, .int v2), (3, .int v3), (4, .int v4), (5, .int v5), (6, .int v6), (7, .int v7)] hl rfl rfl rfl (fun ls hl => ?_)
      refine x_goto 51 C dX11_write_446 rfl ?_
      exact hk51 m_taped m_has m_first m_second v1 v2 v3 v4 v5 v6 v7 (1 : Int32) _ _ _ X (lv_sub hl [1, 2, 3, 4, 5, 6, 7, 8, 0] rfl) hf
    refine x_iload_n 421 C dX11_write_420 hl 3 rfl rfl ?_
    refine x_iconst 422 C dX11_write_421 (1 : Int32) kv_iconst_1 rfl ?_
    refine x_iadd 423 C dX11_write_422 rfl ?_
    refine x_istore_n 424 C dX11_write_423 [(3, .int (v3 + (1 : Int32))), (0, .ref (h 0)), (1, .int v1), (2, .int v2), (4, .int v4), (5, .int v5), (6, .int v6), (7, .int v7)] hl rfl rfl rfl (fun ls hl => ?_)
    refine x_goto 404 C dX11_write_424 rfl ?_
    exact ih m_taped m_has m_first m_second v1 v2 (v3 + (1 : Int32)) v4 v5 v6 v7 _ _ _ X (lv_sub hl [1, 2, 3, 0, 4, 5, 6, 7] rfl) hf
set_option maxHeartbeats 4000000 in
set_option maxRecDepth 100000 in
theorem w_X11_write_386 {E : KE} {A : Nat → Prop} {D : va_G} {T : KT} (h : Nat → Nat) (C : kx_C E cX11_write 16 (some .int) RX11 2 45 D T) (N : Nat) (x : Int32 × Int32 × (Nat → Int32) × (Nat → Int32) × (Nat → Int32)) (m_states : Int32) (m_ra m_rb : Int64) (m_threes m_primes m_ones m_unit : Int32) (m_allParts m_allNorms m_allClasses : Int64) (m_odd : Int32) (m_boxWide m_boxHigh m_boxStep : Int64) (m_partingMany : Int32) (m_qa m_qb m_la m_lb m_sa m_sb m_ta m_tb : Int64) (m_listed m_tells m_wanted m_found : Int32) (m_bits : Int64) (m_power2 m_rings m_ringA m_ringB m_seedNow : Int32) (m_tape m_keptHas m_keptFirst m_keptSecond m_pa m_pb m_pNorm m_cubed m_isOpen m_signs m_often m_la0 m_lb0 : Nat → Int32) (R : kx_RI E cX11_write D A (wM T h x.2.1 m_states m_ra m_rb m_threes m_primes m_ones m_unit m_allParts m_allNorms m_allClasses m_odd m_boxWide m_boxHigh m_boxStep m_partingMany m_qa m_qb m_la m_lb m_sa m_sb m_ta m_tb m_listed m_tells m_wanted m_found m_bits m_power2 m_rings m_ringA m_ringB m_seedNow m_tape x.2.2.1 m_keptHas x.2.2.2.1 x.2.2.2.2 m_keptFirst m_keptSecond m_pa m_pb m_pNorm m_cubed m_isOpen m_signs m_often m_la0 m_lb0) x.1) (k51 : Int32 → Int32 → Int32 → Int32 → Int32 → Int32 → Int32 → Int32 → Int32 → (Nat → Int32) → (Nat → Int32) → (Nat → Int32) → (Nat → Int32) → Option (Int32 × Int32 × (Nat → Int32) × (Nat → Int32) × (Nat → Int32))) (hk51 : ∀ (m_taped : Int32) (m_has m_first m_second : Nat → Int32) (v1 v2 v3 v4 v5 v6 v7 v8 : Int32) (H : Heap) (locs : List Loc) (ls : Array Slot), kx_H E D A H locs (wM T h m_taped m_states m_ra m_rb m_threes m_primes m_ones m_unit m_allParts m_allNorms m_allClasses m_odd m_boxWide m_boxHigh m_boxStep m_partingMany m_qa m_qb m_la m_lb m_sa m_sb m_ta m_tb m_listed m_tells m_wanted m_found m_bits m_power2 m_rings m_ringA m_ringB m_seedNow m_tape m_has m_keptHas m_first m_second m_keptFirst m_keptSecond m_pa m_pb m_pNorm m_cubed m_isOpen m_signs m_often m_la0 m_lb0) → lv_has ls 16 [(0, .ref (h 0)), (1, .int v1), (2, .int v2), (3, .int v3), (4, .int v4), (5, .int v5), (6, .int v6), (7, .int v7), (8, .int v8)] → k51 v1 v2 v3 v4 v5 v6 v7 v8 m_taped m_tape m_has m_first m_second = some x → kx_W E H locs 51 ls []) : ∀ (m_taped : Int32) (m_has m_first m_second : Nat → Int32) (v1 v2 v3 v4 v5 v6 v7 v15 s0 : Int32) (H : Heap) (locs : List Loc) (ls : Array Slot), kx_H E D A H locs (wM T h m_taped m_states m_ra m_rb m_threes m_primes m_ones m_unit m_allParts m_allNorms m_allClasses m_odd m_boxWide m_boxHigh m_boxStep m_partingMany m_qa m_qb m_la m_lb m_sa m_sb m_ta m_tb m_listed m_tells m_wanted m_found m_bits m_power2 m_rings m_ringA m_ringB m_seedNow m_tape m_has m_keptHas m_first m_second m_keptFirst m_keptSecond m_pa m_pb m_pNorm m_cubed m_isOpen m_signs m_often m_la0 m_lb0) → lv_has ls 16 [(0, .ref (h 0)), (1, .int v1), (2, .int v2), (3, .int v3), (4, .int v4), (5, .int v5), (6, .int v6), (7, .int v7), (15, .int v15)] → f_X11_write_386 N k51 v1 v2 v3 v4 v5 v6 v7 v15 s0 m_taped m_tape m_has m_first m_second = some x → kx_W E H locs 386 ls [.int s0] := by
  intro m_taped m_has m_first m_second v1 v2 v3 v4 v5 v6 v7 v15 s0 H locs ls X hl hf
  rw [f_X11_write_386] at hf
  refine x_istore 388 C dX11_write_386 [(13, .int s0), (0, .ref (h 0)), (1, .int v1), (2, .int v2), (3, .int v3), (4, .int v4), (5, .int v5), (6, .int v6), (7, .int v7), (15, .int v15)] hl rfl rfl rfl (fun ls hl => ?_)
  refine x_iload 390 C dX11_write_388 hl 9 rfl rfl ?_
  refine x_if_eq 427 393 C dX11_write_390 rfl rfl hf (fun hf => ?_) (fun hf => ?_)
  · refine x_iload 429 C dX11_write_427 hl 0 rfl rfl ?_
    refine x_istore 431 C dX11_write_429 [(4, .int s0), (13, .int s0), (0, .ref (h 0)), (1, .int v1), (2, .int v2), (3, .int v3), (5, .int v5), (6, .int v6), (7, .int v7), (15, .int v15)] hl rfl rfl rfl (fun ls hl => ?_)
    refine x_iconst 432 C dX11_write_431 (1 : Int32) kv_iconst_1 rfl ?_
    refine x_istore 434 C dX11_write_432 [(6, .int (1 : Int32)), (4, .int s0), (13, .int s0), (0, .ref (h 0)), (1, .int v1), (2, .int v2), (3, .int v3), (5, .int v5), (7, .int v7), (15, .int v15)] hl rfl rfl rfl (fun ls hl => ?_)
    refine x_iload_n 435 C dX11_write_434 hl 6 rfl rfl ?_
    refine x_iload_n 436 C dX11_write_435 hl 5 rfl rfl ?_
    refine x_icmp_ge 443 439 C dX11_write_436 rfl rfl hf (fun hf => ?_) (fun hf => ?_)
    · refine x_iconst 444 C dX11_write_443 (0 : Int32) kv_iconst_0 rfl ?_
      refine x_istore 446 C dX11_write_444 [(8, .int (0 : Int32)), (6, .int (1 : Int32)), (4, .int s0), (13, .int s0), (0, .ref (h 0)), (1, .int v1), (2, .int v2), (3, .int v3), (5, .int v5), (7, .int v7), (15, .int v15)] hl rfl rfl rfl (fun ls hl => ?_)
      refine x_goto 51 C dX11_write_446 rfl ?_
      exact hk51 m_taped m_has m_first m_second v1 v2 v3 s0 v5 (1 : Int32) v7 (0 : Int32) _ _ _ X (lv_sub hl [4, 5, 6, 7, 2, 8, 1, 9, 0] rfl) hf
    refine x_iconst 440 C dX11_write_439 (1 : Int32) kv_iconst_1 rfl ?_
    refine x_goto 444 C dX11_write_440 rfl ?_
    refine x_istore 446 C dX11_write_444 [(8, .int (1 : Int32)), (6, .int (1 : Int32)), (4, .int s0), (13, .int s0), (0, .ref (h 0)), (1, .int v1), (2, .int v2), (3, .int v3), (5, .int v5), (7, .int v7), (15, .int v15)] hl rfl rfl rfl (fun ls hl => ?_)
    refine x_goto 51 C dX11_write_446 rfl ?_
    exact hk51 m_taped m_has m_first m_second v1 v2 v3 s0 v5 (1 : Int32) v7 (1 : Int32) _ _ _ X (lv_sub hl [4, 5, 6, 7, 2, 8, 1, 9, 0] rfl) hf
  refine x_iload 395 C dX11_write_393 hl 0 rfl rfl ?_
  refine x_istore 397 C dX11_write_395 [(5, .int s0), (13, .int s0), (0, .ref (h 0)), (1, .int v1), (2, .int v2), (3, .int v3), (4, .int v4), (6, .int v6), (7, .int v7), (15, .int v15)] hl rfl rfl rfl (fun ls hl => ?_)
  refine x_iconst 398 C dX11_write_397 (1 : Int32) kv_iconst_1 rfl ?_
  refine x_istore 400 C dX11_write_398 [(7, .int (1 : Int32)), (5, .int s0), (13, .int s0), (0, .ref (h 0)), (1, .int v1), (2, .int v2), (3, .int v3), (4, .int v4), (6, .int v6), (15, .int v15)] hl rfl rfl rfl (fun ls hl => ?_)
  refine x_iload_n 401 C dX11_write_400 hl 6 rfl rfl ?_
  refine x_iconst 402 C dX11_write_401 (1 : Int32) kv_iconst_1 rfl ?_
  refine x_iadd 403 C dX11_write_402 rfl ?_
  refine x_istore_n 404 C dX11_write_403 [(3, .int (v3 + (1 : Int32))), (7, .int (1 : Int32)), (5, .int s0), (13, .int s0), (0, .ref (h 0)), (1, .int v1), (2, .int v2), (4, .int v4), (6, .int v6), (15, .int v15)] hl rfl rfl rfl (fun ls hl => ?_)
  exact w_X11_write_404 h C N x m_states m_ra m_rb m_threes m_primes m_ones m_unit m_allParts m_allNorms m_allClasses m_odd m_boxWide m_boxHigh m_boxStep m_partingMany m_qa m_qb m_la m_lb m_sa m_sb m_ta m_tb m_listed m_tells m_wanted m_found m_bits m_power2 m_rings m_ringA m_ringB m_seedNow m_tape m_keptHas m_keptFirst m_keptSecond m_pa m_pb m_pNorm m_cubed m_isOpen m_signs m_often m_la0 m_lb0 R (k51) hk51 N m_taped m_has m_first m_second v1 v2 (v3 + (1 : Int32)) v4 s0 v6 (1 : Int32) _ _ _ X (lv_sub hl [4, 5, 6, 0, 7, 2, 8, 1] rfl) hf
set_option maxHeartbeats 4000000 in
set_option maxRecDepth 100000 in
theorem w_X11_write_360 {E : KE} {A : Nat → Prop} {D : va_G} {T : KT} (h : Nat → Nat) (C : kx_C E cX11_write 16 (some .int) RX11 2 45 D T) (N : Nat) (x : Int32 × Int32 × (Nat → Int32) × (Nat → Int32) × (Nat → Int32)) (m_states : Int32) (m_ra m_rb : Int64) (m_threes m_primes m_ones m_unit : Int32) (m_allParts m_allNorms m_allClasses : Int64) (m_odd : Int32) (m_boxWide m_boxHigh m_boxStep : Int64) (m_partingMany : Int32) (m_qa m_qb m_la m_lb m_sa m_sb m_ta m_tb : Int64) (m_listed m_tells m_wanted m_found : Int32) (m_bits : Int64) (m_power2 m_rings m_ringA m_ringB m_seedNow : Int32) (m_tape m_keptHas m_keptFirst m_keptSecond m_pa m_pb m_pNorm m_cubed m_isOpen m_signs m_often m_la0 m_lb0 : Nat → Int32) (R : kx_RI E cX11_write D A (wM T h x.2.1 m_states m_ra m_rb m_threes m_primes m_ones m_unit m_allParts m_allNorms m_allClasses m_odd m_boxWide m_boxHigh m_boxStep m_partingMany m_qa m_qb m_la m_lb m_sa m_sb m_ta m_tb m_listed m_tells m_wanted m_found m_bits m_power2 m_rings m_ringA m_ringB m_seedNow m_tape x.2.2.1 m_keptHas x.2.2.2.1 x.2.2.2.2 m_keptFirst m_keptSecond m_pa m_pb m_pNorm m_cubed m_isOpen m_signs m_often m_la0 m_lb0) x.1) (k51 : Int32 → Int32 → Int32 → Int32 → Int32 → Int32 → Int32 → Int32 → Int32 → (Nat → Int32) → (Nat → Int32) → (Nat → Int32) → (Nat → Int32) → Option (Int32 × Int32 × (Nat → Int32) × (Nat → Int32) × (Nat → Int32))) (hk51 : ∀ (m_taped : Int32) (m_has m_first m_second : Nat → Int32) (v1 v2 v3 v4 v5 v6 v7 v8 : Int32) (H : Heap) (locs : List Loc) (ls : Array Slot), kx_H E D A H locs (wM T h m_taped m_states m_ra m_rb m_threes m_primes m_ones m_unit m_allParts m_allNorms m_allClasses m_odd m_boxWide m_boxHigh m_boxStep m_partingMany m_qa m_qb m_la m_lb m_sa m_sb m_ta m_tb m_listed m_tells m_wanted m_found m_bits m_power2 m_rings m_ringA m_ringB m_seedNow m_tape m_has m_keptHas m_first m_second m_keptFirst m_keptSecond m_pa m_pb m_pNorm m_cubed m_isOpen m_signs m_often m_la0 m_lb0) → lv_has ls 16 [(0, .ref (h 0)), (1, .int v1), (2, .int v2), (3, .int v3), (4, .int v4), (5, .int v5), (6, .int v6), (7, .int v7), (8, .int v8)] → k51 v1 v2 v3 v4 v5 v6 v7 v8 m_taped m_tape m_has m_first m_second = some x → kx_W E H locs 51 ls []) : ∀ (m_taped : Int32) (m_has m_first m_second : Nat → Int32) (v1 v2 v3 v4 v5 v6 v7 v12 v13 v14 v15 : Int32) (H : Heap) (locs : List Loc) (ls : Array Slot), kx_H E D A H locs (wM T h m_taped m_states m_ra m_rb m_threes m_primes m_ones m_unit m_allParts m_allNorms m_allClasses m_odd m_boxWide m_boxHigh m_boxStep m_partingMany m_qa m_qb m_la m_lb m_sa m_sb m_ta m_tb m_listed m_tells m_wanted m_found m_bits m_power2 m_rings m_ringA m_ringB m_seedNow m_tape m_has m_keptHas m_first m_second m_keptFirst m_keptSecond m_pa m_pb m_pNorm m_cubed m_isOpen m_signs m_often m_la0 m_lb0) → lv_has ls 16 [(0, .ref (h 0)), (1, .int v1), (2, .int v2), (3, .int v3), (4, .int v4), (5, .int v5), (6, .int v6), (7, .int v7), (12, .int v12), (13, .int v13), (14, .int v14), (15, .int v15)] → f_X11_write_360 N k51 v1 v2 v3 v4 v5 v6 v7 v12 v13 v14 v15 m_taped m_tape m_has m_first m_second = some x → kx_W E H locs 360 ls [] := by
  intro m_taped m_has m_first m_second v1 v2 v3 v4 v5 v6 v7 v12 v13 v14 v15 H locs ls X hl hf
  rw [f_X11_write_360] at hf
  refine x_iload 362 C dX11_write_360 hl 10 rfl rfl ?_
  refine x_if_ne 369 365 C dX11_write_362 rfl rfl hf (fun hf => ?_) (fun hf => ?_)
  · refine x_iload 371 C dX11_write_369 hl 9 rfl rfl ?_
    refine x_istore 373 C dX11_write_371 [(13, .int v13), (0, .ref (h 0)), (1, .int v1), (2, .int v2), (3, .int v3), (4, .int v4), (5, .int v5), (6, .int v6), (7, .int v7), (12, .int v12), (14, .int v14), (15, .int v15)] hl rfl rfl rfl (fun ls hl => ?_)
    refine x_iload 375 C dX11_write_373 hl 9 rfl rfl ?_
    refine x_if_eq 384 378 C dX11_write_375 rfl rfl hf (fun hf => ?_) (fun hf => ?_)
    · refine x_iload 386 C dX11_write_384 hl 0 rfl rfl ?_
      exact w_X11_write_386 h C N x m_states m_ra m_rb m_threes m_primes m_ones m_unit m_allParts m_allNorms m_allClasses m_odd m_boxWide m_boxHigh m_boxStep m_partingMany m_qa m_qb m_la m_lb m_sa m_sb m_ta m_tb m_listed m_tells m_wanted m_found m_bits m_power2 m_rings m_ringA m_ringB m_seedNow m_tape m_keptHas m_keptFirst m_keptSecond m_pa m_pb m_pNorm m_cubed m_isOpen m_signs m_often m_la0 m_lb0 R (k51) hk51 m_taped m_has m_first m_second v1 v2 v3 v4 v5 v6 v7 v15 v13 _ _ _ X (lv_sub hl [1, 2, 3, 4, 5, 6, 7, 8, 11] rfl) hf
    refine x_iload 380 C dX11_write_378 hl 0 rfl rfl ?_
    refine x_ineg 381 C dX11_write_380 rfl ?_
    refine x_goto 386 C dX11_write_381 rfl ?_
    exact w_X11_write_386 h C N x m_states m_ra m_rb m_threes m_primes m_ones m_unit m_allParts m_allNorms m_allClasses m_odd m_boxWide m_boxHigh m_boxStep m_partingMany m_qa m_qb m_la m_lb m_sa m_sb m_ta m_tb m_listed m_tells m_wanted m_found m_bits m_power2 m_rings m_ringA m_ringB m_seedNow m_tape m_keptHas m_keptFirst m_keptSecond m_pa m_pb m_pNorm m_cubed m_isOpen m_signs m_often m_la0 m_lb0 R (k51) hk51 m_taped m_has m_first m_second v1 v2 v3 v4 v5 v6 v7 v15 (-v13) _ _ _ X (lv_sub hl [1, 2, 3, 4, 5, 6, 7, 8, 11] rfl) hf
  refine x_iconst 366 C dX11_write_365 (1 : Int32) kv_iconst_1 rfl ?_
  refine x_goto 371 C dX11_write_366 rfl ?_
  refine x_istore 373 C dX11_write_371 [(13, .int (1 : Int32)), (0, .ref (h 0)), (1, .int v1), (2, .int v2), (3, .int v3), (4, .int v4), (5, .int v5), (6, .int v6), (7, .int v7), (12, .int v12), (14, .int v14), (15, .int v15)] hl rfl rfl rfl (fun ls hl => ?_)
  refine x_iload 375 C dX11_write_373 hl 9 rfl rfl ?_
  refine x_if_eq 384 378 C dX11_write_375 rfl rfl hf (fun hf => ?_) (fun hf => ?_)
  · refine x_iload 386 C dX11_write_384 hl 0 rfl rfl ?_
    exact w_X11_write_386 h C N x m_states m_ra m_rb m_threes m_primes m_ones m_unit m_allParts m_allNorms m_allClasses m_odd m_boxWide m_boxHigh m_boxStep m_partingMany m_qa m_qb m_la m_lb m_sa m_sb m_ta m_tb m_listed m_tells m_wanted m_found m_bits m_power2 m_rings m_ringA m_ringB m_seedNow m_tape m_keptHas m_keptFirst m_keptSecond m_pa m_pb m_pNorm m_cubed m_isOpen m_signs m_often m_la0 m_lb0 R (k51) hk51 m_taped m_has m_first m_second v1 v2 v3 v4 v5 v6 v7 v15 (1 : Int32) _ _ _ X (lv_sub hl [1, 2, 3, 4, 5, 6, 7, 8, 11] rfl) hf
  refine x_iload 380 C dX11_write_378 hl 0 rfl rfl ?_
  refine x_ineg 381 C dX11_write_380 rfl ?_
  refine x_goto 386 C dX11_write_381 rfl ?_
  exact w_X11_write_386 h C N x m_states m_ra m_rb m_threes m_primes m_ones m_unit m_allParts m_allNorms m_allClasses m_odd m_boxWide m_boxHigh m_boxStep m_partingMany m_qa m_qb m_la m_lb m_sa m_sb m_ta m_tb m_listed m_tells m_wanted m_found m_bits m_power2 m_rings m_ringA m_ringB m_seedNow m_tape m_keptHas m_keptFirst m_keptSecond m_pa m_pb m_pNorm m_cubed m_isOpen m_signs m_often m_la0 m_lb0 R (k51) hk51 m_taped m_has m_first m_second v1 v2 v3 v4 v5 v6 v7 v15 (-(1 : Int32)) _ _ _ X (lv_sub hl [1, 2, 3, 4, 5, 6, 7, 8, 11] rfl) hf
set_option maxHeartbeats 4000000 in
set_option maxRecDepth 100000 in
theorem w_X11_write_335 {E : KE} {A : Nat → Prop} {D : va_G} {T : KT} (h : Nat → Nat) (C : kx_C E cX11_write 16 (some .int) RX11 2 45 D T) (N : Nat) (x : Int32 × Int32 × (Nat → Int32) × (Nat → Int32) × (Nat → Int32)) (m_states : Int32) (m_ra m_rb : Int64) (m_threes m_primes m_ones m_unit : Int32) (m_allParts m_allNorms m_allClasses : Int64) (m_odd : Int32) (m_boxWide m_boxHigh m_boxStep : Int64) (m_partingMany : Int32) (m_qa m_qb m_la m_lb m_sa m_sb m_ta m_tb : Int64) (m_listed m_tells m_wanted m_found : Int32) (m_bits : Int64) (m_power2 m_rings m_ringA m_ringB m_seedNow : Int32) (m_tape m_keptHas m_keptFirst m_keptSecond m_pa m_pb m_pNorm m_cubed m_isOpen m_signs m_often m_la0 m_lb0 : Nat → Int32) (R : kx_RI E cX11_write D A (wM T h x.2.1 m_states m_ra m_rb m_threes m_primes m_ones m_unit m_allParts m_allNorms m_allClasses m_odd m_boxWide m_boxHigh m_boxStep m_partingMany m_qa m_qb m_la m_lb m_sa m_sb m_ta m_tb m_listed m_tells m_wanted m_found m_bits m_power2 m_rings m_ringA m_ringB m_seedNow m_tape x.2.2.1 m_keptHas x.2.2.2.1 x.2.2.2.2 m_keptFirst m_keptSecond m_pa m_pb m_pNorm m_cubed m_isOpen m_signs m_often m_la0 m_lb0) x.1) (k51 : Int32 → Int32 → Int32 → Int32 → Int32 → Int32 → Int32 → Int32 → Int32 → (Nat → Int32) → (Nat → Int32) → (Nat → Int32) → (Nat → Int32) → Option (Int32 × Int32 × (Nat → Int32) × (Nat → Int32) × (Nat → Int32))) (hk51 : ∀ (m_taped : Int32) (m_has m_first m_second : Nat → Int32) (v1 v2 v3 v4 v5 v6 v7 v8 : Int32) (H : Heap) (locs : List Loc) (ls : Array Slot), kx_H E D A H locs (wM T h m_taped m_states m_ra m_rb m_threes m_primes m_ones m_unit m_allParts m_allNorms m_allClasses m_odd m_boxWide m_boxHigh m_boxStep m_partingMany m_qa m_qb m_la m_lb m_sa m_sb m_ta m_tb m_listed m_tells m_wanted m_found m_bits m_power2 m_rings m_ringA m_ringB m_seedNow m_tape m_has m_keptHas m_first m_second m_keptFirst m_keptSecond m_pa m_pb m_pNorm m_cubed m_isOpen m_signs m_often m_la0 m_lb0) → lv_has ls 16 [(0, .ref (h 0)), (1, .int v1), (2, .int v2), (3, .int v3), (4, .int v4), (5, .int v5), (6, .int v6), (7, .int v7), (8, .int v8)] → k51 v1 v2 v3 v4 v5 v6 v7 v8 m_taped m_tape m_has m_first m_second = some x → kx_W E H locs 51 ls []) : ∀ (m_taped : Int32) (m_has m_first m_second : Nat → Int32) (v1 v2 v3 v4 v5 v6 v7 v9 v12 v13 v14 v15 : Int32) (H : Heap) (locs : List Loc) (ls : Array Slot), kx_H E D A H locs (wM T h m_taped m_states m_ra m_rb m_threes m_primes m_ones m_unit m_allParts m_allNorms m_allClasses m_odd m_boxWide m_boxHigh m_boxStep m_partingMany m_qa m_qb m_la m_lb m_sa m_sb m_ta m_tb m_listed m_tells m_wanted m_found m_bits m_power2 m_rings m_ringA m_ringB m_seedNow m_tape m_has m_keptHas m_first m_second m_keptFirst m_keptSecond m_pa m_pb m_pNorm m_cubed m_isOpen m_signs m_often m_la0 m_lb0) → lv_has ls 16 [(0, .ref (h 0)), (1, .int v1), (2, .int v2), (3, .int v3), (4, .int v4), (5, .int v5), (6, .int v6), (7, .int v7), (9, .int v9), (12, .int v12), (13, .int v13), (14, .int v14), (15, .int v15)] → f_X11_write_335 N k51 v1 v2 v3 v4 v5 v6 v7 v9 v12 v13 v14 v15 m_taped m_tape m_has m_first m_second = some x → kx_W E H locs 335 ls [] := by
  intro m_taped m_has m_first m_second v1 v2 v3 v4 v5 v6 v7 v9 v12 v13 v14 v15 H locs ls X hl hf
  rw [f_X11_write_335] at hf
  refine x_iload 337 C dX11_write_335 hl 12 rfl rfl ?_
  refine x_if_eq 348 340 C dX11_write_337 rfl rfl hf (fun hf => ?_) (fun hf => ?_)
  · refine x_iload 350 C dX11_write_348 hl 6 rfl rfl ?_
    refine x_if_eq 360 353 C dX11_write_350 rfl rfl hf (fun hf => ?_) (fun hf => ?_)
    · exact w_X11_write_360 h C N x m_states m_ra m_rb m_threes m_primes m_ones m_unit m_allParts m_allNorms m_allClasses m_odd m_boxWide m_boxHigh m_boxStep m_partingMany m_qa m_qb m_la m_lb m_sa m_sb m_ta m_tb m_listed m_tells m_wanted m_found m_bits m_power2 m_rings m_ringA m_ringB m_seedNow m_tape m_keptHas m_keptFirst m_keptSecond m_pa m_pb m_pNorm m_cubed m_isOpen m_signs m_often m_la0 m_lb0 R (k51) hk51 m_taped m_has m_first m_second v1 v2 v3 v4 v5 v6 v7 v12 v13 v14 v15 _ _ _ X (lv_sub hl [0, 1, 2, 3, 4, 5, 6, 7, 9, 10, 11, 12] rfl) hf
    refine x_sipush 356 C dX11_write_353 (-3000 : Int32) kv_sipush_m3000 rfl ?_
    refine x_iload 358 C dX11_write_356 hl 8 rfl rfl ?_
    refine x_isub 359 C dX11_write_358 rfl ?_
    obtain rfl := Option.some.inj hf
    exact R _ _ _ _ X dX11_write_359
  refine x_iload 342 C dX11_write_340 hl 7 rfl rfl ?_
  refine x_if_eq 360 345 C dX11_write_342 rfl rfl hf (fun hf => ?_) (fun hf => ?_)
  · exact w_X11_write_360 h C N x m_states m_ra m_rb m_threes m_primes m_ones m_unit m_allParts m_allNorms m_allClasses m_odd m_boxWide m_boxHigh m_boxStep m_partingMany m_qa m_qb m_la m_lb m_sa m_sb m_ta m_tb m_listed m_tells m_wanted m_found m_bits m_power2 m_rings m_ringA m_ringB m_seedNow m_tape m_keptHas m_keptFirst m_keptSecond m_pa m_pb m_pNorm m_cubed m_isOpen m_signs m_often m_la0 m_lb0 R (k51) hk51 m_taped m_has m_first m_second v1 v2 v3 v4 v5 v6 v7 v12 v13 v14 v15 _ _ _ X (lv_sub hl [0, 1, 2, 3, 4, 5, 6, 7, 9, 10, 11, 12] rfl) hf
  refine x_goto 353 C dX11_write_345 rfl ?_
  refine x_sipush 356 C dX11_write_353 (-3000 : Int32) kv_sipush_m3000 rfl ?_
  refine x_iload 358 C dX11_write_356 hl 8 rfl rfl ?_
  refine x_isub 359 C dX11_write_358 rfl ?_
  obtain rfl := Option.some.inj hf
  exact R _ _ _ _ X dX11_write_359
set_option maxHeartbeats 4000000 in
set_option maxRecDepth 100000 in
theorem w_X11_write_296 {E : KE} {A : Nat → Prop} {D : va_G} {T : KT} (h : Nat → Nat) (C : kx_C E cX11_write 16 (some .int) RX11 2 45 D T) (N : Nat) (x : Int32 × Int32 × (Nat → Int32) × (Nat → Int32) × (Nat → Int32)) (m_states : Int32) (m_ra m_rb : Int64) (m_threes m_primes m_ones m_unit : Int32) (m_allParts m_allNorms m_allClasses : Int64) (m_odd : Int32) (m_boxWide m_boxHigh m_boxStep : Int64) (m_partingMany : Int32) (m_qa m_qb m_la m_lb m_sa m_sb m_ta m_tb : Int64) (m_listed m_tells m_wanted m_found : Int32) (m_bits : Int64) (m_power2 m_rings m_ringA m_ringB m_seedNow : Int32) (m_tape m_keptHas m_keptFirst m_keptSecond m_pa m_pb m_pNorm m_cubed m_isOpen m_signs m_often m_la0 m_lb0 : Nat → Int32) (R : kx_RI E cX11_write D A (wM T h x.2.1 m_states m_ra m_rb m_threes m_primes m_ones m_unit m_allParts m_allNorms m_allClasses m_odd m_boxWide m_boxHigh m_boxStep m_partingMany m_qa m_qb m_la m_lb m_sa m_sb m_ta m_tb m_listed m_tells m_wanted m_found m_bits m_power2 m_rings m_ringA m_ringB m_seedNow m_tape x.2.2.1 m_keptHas x.2.2.2.1 x.2.2.2.2 m_keptFirst m_keptSecond m_pa m_pb m_pNorm m_cubed m_isOpen m_signs m_often m_la0 m_lb0) x.1) (k51 : Int32 → Int32 → Int32 → Int32 → Int32 → Int32 → Int32 → Int32 → Int32 → (Nat → Int32) → (Nat → Int32) → (Nat → Int32) → (Nat → Int32) → Option (Int32 × Int32 × (Nat → Int32) × (Nat → Int32) × (Nat → Int32))) (hk51 : ∀ (m_taped : Int32) (m_has m_first m_second : Nat → Int32) (v1 v2 v3 v4 v5 v6 v7 v8 : Int32) (H : Heap) (locs : List Loc) (ls : Array Slot), kx_H E D A H locs (wM T h m_taped m_states m_ra m_rb m_threes m_primes m_ones m_unit m_allParts m_allNorms m_allClasses m_odd m_boxWide m_boxHigh m_boxStep m_partingMany m_qa m_qb m_la m_lb m_sa m_sb m_ta m_tb m_listed m_tells m_wanted m_found m_bits m_power2 m_rings m_ringA m_ringB m_seedNow m_tape m_has m_keptHas m_first m_second m_keptFirst m_keptSecond m_pa m_pb m_pNorm m_cubed m_isOpen m_signs m_often m_la0 m_lb0) → lv_has ls 16 [(0, .ref (h 0)), (1, .int v1), (2, .int v2), (3, .int v3), (4, .int v4), (5, .int v5), (6, .int v6), (7, .int v7), (8, .int v8)] → k51 v1 v2 v3 v4 v5 v6 v7 v8 m_taped m_tape m_has m_first m_second = some x → kx_W E H locs 51 ls []) : ∀ (m_taped : Int32) (m_has m_first m_second : Nat → Int32) (v1 v2 v3 v4 v5 v6 v7 v9 v12 v13 v14 : Int32) (H : Heap) (locs : List Loc) (ls : Array Slot), kx_H E D A H locs (wM T h m_taped m_states m_ra m_rb m_threes m_primes m_ones m_unit m_allParts m_allNorms m_allClasses m_odd m_boxWide m_boxHigh m_boxStep m_partingMany m_qa m_qb m_la m_lb m_sa m_sb m_ta m_tb m_listed m_tells m_wanted m_found m_bits m_power2 m_rings m_ringA m_ringB m_seedNow m_tape m_has m_keptHas m_first m_second m_keptFirst m_keptSecond m_pa m_pb m_pNorm m_cubed m_isOpen m_signs m_often m_la0 m_lb0) → lv_has ls 16 [(0, .ref (h 0)), (1, .int v1), (2, .int v2), (3, .int v3), (4, .int v4), (5, .int v5), (6, .int v6), (7, .int v7), (9, .int v9), (12, .int v12), (13, .int v13), (14, .int v14)] → f_X11_write_296 N k51 v1 v2 v3 v4 v5 v6 v7 v9 v12 v13 v14 m_taped m_tape m_has m_first m_second = some x → kx_W E H locs 296 ls [] := by
  intro m_taped m_has m_first m_second v1 v2 v3 v4 v5 v6 v7 v9 v12 v13 v14 H locs ls X hl hf
  rw [f_X11_write_296] at hf
  refine x_iload_n 297 C dX11_write_296 hl 3 rfl rfl ?_
  refine x_iload_n 298 C dX11_write_297 hl 2 rfl rfl ?_
  refine x_icmp_ge 316 301 C dX11_write_298 rfl rfl hf (fun hf => ?_) (fun hf => ?_)
  · refine x_iconst 317 C dX11_write_316 (0 : Int32) kv_iconst_0 rfl ?_
    refine x_istore 319 C dX11_write_317 [(15, .int (0 : Int32)), (0, .ref (h 0)), (1, .int v1), (2, .int v2), (3, .int v3), (4, .int v4), (5, .int v5), (6, .int v6), (7, .int v7), (9, .int v9), (12, .int v12), (13, .int v13), (14, .int v14)] hl rfl rfl rfl (fun ls hl => ?_)
    refine x_iload 321 C dX11_write_319 hl 0 rfl rfl ?_
    refine x_if_ne 335 324 C dX11_write_321 rfl rfl hf (fun hf => ?_) (fun hf => ?_)
    · exact w_X11_write_335 h C N x m_states m_ra m_rb m_threes m_primes m_ones m_unit m_allParts m_allNorms m_allClasses m_odd m_boxWide m_boxHigh m_boxStep m_partingMany m_qa m_qb m_la m_lb m_sa m_sb m_ta m_tb m_listed m_tells m_wanted m_found m_bits m_power2 m_rings m_ringA m_ringB m_seedNow m_tape m_keptHas m_keptFirst m_keptSecond m_pa m_pb m_pNorm m_cubed m_isOpen m_signs m_often m_la0 m_lb0 R (k51) hk51 m_taped m_has m_first m_second v1 v2 v3 v4 v5 v6 v7 v9 v12 v13 v14 (0 : Int32) _ _ _ X (lv_sub hl [1, 2, 3, 4, 5, 6, 7, 8, 9, 10, 11, 12, 0] rfl) hf
    refine x_iload 326 C dX11_write_324 hl 12 rfl rfl ?_
    refine x_if_ne 335 329 C dX11_write_326 rfl rfl hf (fun hf => ?_) (fun hf => ?_)
    · exact w_X11_write_335 h C N x m_states m_ra m_rb m_threes m_primes m_ones m_unit m_allParts m_allNorms m_allClasses m_odd m_boxWide m_boxHigh m_boxStep m_partingMany m_qa m_qb m_la m_lb m_sa m_sb m_ta m_tb m_listed m_tells m_wanted m_found m_bits m_power2 m_rings m_ringA m_ringB m_seedNow m_tape m_keptHas m_keptFirst m_keptSecond m_pa m_pb m_pNorm m_cubed m_isOpen m_signs m_often m_la0 m_lb0 R (k51) hk51 m_taped m_has m_first m_second v1 v2 v3 v4 v5 v6 v7 v9 v12 v13 v14 (0 : Int32) _ _ _ X (lv_sub hl [1, 2, 3, 4, 5, 6, 7, 8, 9, 10, 11, 12, 0] rfl) hf
    refine x_sipush 332 C dX11_write_329 (-1000 : Int32) kv_sipush_m1000 rfl ?_
    refine x_iload_n 333 C dX11_write_332 hl 4 rfl rfl ?_
    refine x_isub 334 C dX11_write_333 rfl ?_
    obtain rfl := Option.some.inj hf
    exact R _ _ _ _ X dX11_write_334
  refine x_aload_n 302 C dX11_write_301 hl 0 rfl rfl ?_
  refine x_get 305 C dX11_write_302 X kf_X11_7 0 rfl rfl rfl ?_
  refine x_iload_n 306 C dX11_write_305 hl 3 rfl rfl ?_
  refine x_bald 307 C dX11_write_306 X 1 rfl hf rfl (fun hf => ?_)
  refine x_bipush 309 C dX11_write_307 (119 : Int32) kv_bipush_119 rfl ?_
  refine x_icmp_ne 316 312 C dX11_write_309 rfl rfl hf (fun hf => ?_) (fun hf => ?_)
  · refine x_iconst 317 C dX11_write_316 (0 : Int32) kv_iconst_0 rfl ?_
    refine x_istore 319 C dX11_write_317 [(15, .int (0 : Int32)), (0, .ref (h 0)), (1, .int v1), (2, .int v2), (3, .int v3), (4, .int v4), (5, .int v5), (6, .int v6), (7, .int v7), (9, .int v9), (12, .int v12), (13, .int v13), (14, .int v14)] hl rfl rfl rfl (fun ls hl => ?_)
    refine x_iload 321 C dX11_write_319 hl 0 rfl rfl ?_
    refine x_if_ne 335 324 C dX11_write_321 rfl rfl hf (fun hf => ?_) (fun hf => ?_)
    · exact w_X11_write_335 h C N x m_states m_ra m_rb m_threes m_primes m_ones m_unit m_allParts m_allNorms m_allClasses m_odd m_boxWide m_boxHigh m_boxStep m_partingMany m_qa m_qb m_la m_lb m_sa m_sb m_ta m_tb m_listed m_tells m_wanted m_found m_bits m_power2 m_rings m_ringA m_ringB m_seedNow m_tape m_keptHas m_keptFirst m_keptSecond m_pa m_pb m_pNorm m_cubed m_isOpen m_signs m_often m_la0 m_lb0 R (k51) hk51 m_taped m_has m_first m_second v1 v2 v3 v4 v5 v6 v7 v9 v12 v13 v14 (0 : Int32) _ _ _ X (lv_sub hl [1, 2, 3, 4, 5, 6, 7, 8, 9, 10, 11, 12, 0] rfl) hf
    refine x_iload 326 C dX11_write_324 hl 12 rfl rfl ?_
    refine x_if_ne 335 329 C dX11_write_326 rfl rfl hf (fun hf => ?_) (fun hf => ?_)
    · exact w_X11_write_335 h C N x m_states m_ra m_rb m_threes m_primes m_ones m_unit m_allParts m_allNorms m_allClasses m_odd m_boxWide m_boxHigh m_boxStep m_partingMany m_qa m_qb m_la m_lb m_sa m_sb m_ta m_tb m_listed m_tells m_wanted m_found m_bits m_power2 m_rings m_ringA m_ringB m_seedNow m_tape m_keptHas m_keptFirst m_keptSecond m_pa m_pb m_pNorm m_cubed m_isOpen m_signs m_often m_la0 m_lb0 R (k51) hk51 m_taped m_has m_first m_second v1 v2 v3 v4 v5 v6 v7 v9 v12 v13 v14 (0 : Int32) _ _ _ X (lv_sub hl [1, 2, 3, 4, 5, 6, 7, 8, 9, 10, 11, 12, 0] rfl) hf
    refine x_sipush 332 C dX11_write_329 (-1000 : Int32) kv_sipush_m1000 rfl ?_
    refine x_iload_n 333 C dX11_write_332 hl 4 rfl rfl ?_
    refine x_isub 334 C dX11_write_333 rfl ?_
    obtain rfl := Option.some.inj hf
    exact R _ _ _ _ X dX11_write_334
  refine x_iconst 313 C dX11_write_312 (1 : Int32) kv_iconst_1 rfl ?_
  refine x_goto 317 C dX11_write_313 rfl ?_
  refine x_istore 319 C dX11_write_317 [(15, .int (1 : Int32)), (0, .ref (h 0)), (1, .int v1), (2, .int v2), (3, .int v3), (4, .int v4), (5, .int v5), (6, .int v6), (7, .int v7), (9, .int v9), (12, .int v12), (13, .int v13), (14, .int v14)] hl rfl rfl rfl (fun ls hl => ?_)
  refine x_iload 321 C dX11_write_319 hl 0 rfl rfl ?_
  refine x_if_ne 335 324 C dX11_write_321 rfl rfl hf (fun hf => ?_) (fun hf => ?_)
  · exact w_X11_write_335 h C N x m_states m_ra m_rb m_threes m_primes m_ones m_unit m_allParts m_allNorms m_allClasses m_odd m_boxWide m_boxHigh m_boxStep m_partingMany m_qa m_qb m_la m_lb m_sa m_sb m_ta m_tb m_listed m_tells m_wanted m_found m_bits m_power2 m_rings m_ringA m_ringB m_seedNow m_tape m_keptHas m_keptFirst m_keptSecond m_pa m_pb m_pNorm m_cubed m_isOpen m_signs m_often m_la0 m_lb0 R (k51) hk51 m_taped m_has m_first m_second v1 v2 v3 v4 v5 v6 v7 v9 v12 v13 v14 (1 : Int32) _ _ _ X (lv_sub hl [1, 2, 3, 4, 5, 6, 7, 8, 9, 10, 11, 12, 0] rfl) hf
  refine x_iload 326 C dX11_write_324 hl 12 rfl rfl ?_
  refine x_if_ne 335 329 C dX11_write_326 rfl rfl hf (fun hf => ?_) (fun hf => ?_)
  · exact w_X11_write_335 h C N x m_states m_ra m_rb m_threes m_primes m_ones m_unit m_allParts m_allNorms m_allClasses m_odd m_boxWide m_boxHigh m_boxStep m_partingMany m_qa m_qb m_la m_lb m_sa m_sb m_ta m_tb m_listed m_tells m_wanted m_found m_bits m_power2 m_rings m_ringA m_ringB m_seedNow m_tape m_keptHas m_keptFirst m_keptSecond m_pa m_pb m_pNorm m_cubed m_isOpen m_signs m_often m_la0 m_lb0 R (k51) hk51 m_taped m_has m_first m_second v1 v2 v3 v4 v5 v6 v7 v9 v12 v13 v14 (1 : Int32) _ _ _ X (lv_sub hl [1, 2, 3, 4, 5, 6, 7, 8, 9, 10, 11, 12, 0] rfl) hf
  refine x_sipush 332 C dX11_write_329 (-1000 : Int32) kv_sipush_m1000 rfl ?_
  refine x_iload_n 333 C dX11_write_332 hl 4 rfl rfl ?_
  refine x_isub 334 C dX11_write_333 rfl ?_
  obtain rfl := Option.some.inj hf
  exact R _ _ _ _ X dX11_write_334
set_option maxHeartbeats 4000000 in
set_option maxRecDepth 100000 in
theorem w_X11_write_273 {E : KE} {A : Nat → Prop} {D : va_G} {T : KT} (h : Nat → Nat) (C : kx_C E cX11_write 16 (some .int) RX11 2 45 D T) (N : Nat) (x : Int32 × Int32 × (Nat → Int32) × (Nat → Int32) × (Nat → Int32)) (m_states : Int32) (m_ra m_rb : Int64) (m_threes m_primes m_ones m_unit : Int32) (m_allParts m_allNorms m_allClasses : Int64) (m_odd : Int32) (m_boxWide m_boxHigh m_boxStep : Int64) (m_partingMany : Int32) (m_qa m_qb m_la m_lb m_sa m_sb m_ta m_tb : Int64) (m_listed m_tells m_wanted m_found : Int32) (m_bits : Int64) (m_power2 m_rings m_ringA m_ringB m_seedNow : Int32) (m_tape m_keptHas m_keptFirst m_keptSecond m_pa m_pb m_pNorm m_cubed m_isOpen m_signs m_often m_la0 m_lb0 : Nat → Int32) (R : kx_RI E cX11_write D A (wM T h x.2.1 m_states m_ra m_rb m_threes m_primes m_ones m_unit m_allParts m_allNorms m_allClasses m_odd m_boxWide m_boxHigh m_boxStep m_partingMany m_qa m_qb m_la m_lb m_sa m_sb m_ta m_tb m_listed m_tells m_wanted m_found m_bits m_power2 m_rings m_ringA m_ringB m_seedNow m_tape x.2.2.1 m_keptHas x.2.2.2.1 x.2.2.2.2 m_keptFirst m_keptSecond m_pa m_pb m_pNorm m_cubed m_isOpen m_signs m_often m_la0 m_lb0) x.1) (k51 : Int32 → Int32 → Int32 → Int32 → Int32 → Int32 → Int32 → Int32 → Int32 → (Nat → Int32) → (Nat → Int32) → (Nat → Int32) → (Nat → Int32) → Option (Int32 × Int32 × (Nat → Int32) × (Nat → Int32) × (Nat → Int32))) (hk51 : ∀ (m_taped : Int32) (m_has m_first m_second : Nat → Int32) (v1 v2 v3 v4 v5 v6 v7 v8 : Int32) (H : Heap) (locs : List Loc) (ls : Array Slot), kx_H E D A H locs (wM T h m_taped m_states m_ra m_rb m_threes m_primes m_ones m_unit m_allParts m_allNorms m_allClasses m_odd m_boxWide m_boxHigh m_boxStep m_partingMany m_qa m_qb m_la m_lb m_sa m_sb m_ta m_tb m_listed m_tells m_wanted m_found m_bits m_power2 m_rings m_ringA m_ringB m_seedNow m_tape m_has m_keptHas m_first m_second m_keptFirst m_keptSecond m_pa m_pb m_pNorm m_cubed m_isOpen m_signs m_often m_la0 m_lb0) → lv_has ls 16 [(0, .ref (h 0)), (1, .int v1), (2, .int v2), (3, .int v3), (4, .int v4), (5, .int v5), (6, .int v6), (7, .int v7), (8, .int v8)] → k51 v1 v2 v3 v4 v5 v6 v7 v8 m_taped m_tape m_has m_first m_second = some x → kx_W E H locs 51 ls []) : ∀ (k : Nat), ∀ (m_taped : Int32) (m_has m_first m_second : Nat → Int32) (v1 v2 v3 v4 v5 v6 v7 v9 v12 v13 v14 : Int32) (H : Heap) (locs : List Loc) (ls : Array Slot), kx_H E D A H locs (wM T h m_taped m_states m_ra m_rb m_threes m_primes m_ones m_unit m_allParts m_allNorms m_allClasses m_odd m_boxWide m_boxHigh m_boxStep m_partingMany m_qa m_qb m_la m_lb m_sa m_sb m_ta m_tb m_listed m_tells m_wanted m_found m_bits m_power2 m_rings m_ringA m_ringB m_seedNow m_tape m_has m_keptHas m_first m_second m_keptFirst m_keptSecond m_pa m_pb m_pNorm m_cubed m_isOpen m_signs m_often m_la0 m_lb0) → lv_has ls 16 [(0, .ref (h 0)), (1, .int v1), (2, .int v2), (3, .int v3), (4, .int v4), (5, .int v5), (6, .int v6), (7, .int v7), (9, .int v9), (12, .int v12), (13, .int v13), (14, .int v14)] → f_X11_write_273 N k51 k v1 v2 v3 v4 v5 v6 v7 v9 v12 v13 v14 m_taped m_tape m_has m_first m_second = some x → kx_W E H locs 273 ls [] := by
  intro k
  induction k with
  | zero =>
    intro m_taped m_has m_first m_second v1 v2 v3 v4 v5 v6 v7 v9 v12 v13 v14 H locs ls X hl hf
    cases (show (none : Option (Int32 × Int32 × (Nat → Int32) × (Nat → Int32) × (Nat → Int32))) = some x from hf)
  | succ k ih =>
    intro m_taped m_has m_first m_second v1 v2 v3 v4 v5 v6 v7 v9 v12 v13 v14 H locs ls X hl hf
    rw [f_X11_write_273] at hf
    refine x_iload_n 274 C dX11_write_273 hl 3 rfl rfl ?_
    refine x_iload_n 275 C dX11_write_274 hl 2 rfl rfl ?_
    refine x_icmp_ge 296 278 C dX11_write_275 rfl rfl hf (fun hf => ?_) (fun hf => ?_)
    · exact w_X11_write_296 h C N x m_states m_ra m_rb m_threes m_primes m_ones m_unit m_allParts m_allNorms m_allClasses m_odd m_boxWide m_boxHigh m_boxStep m_partingMany m_qa m_qb m_la m_lb m_sa m_sb m_ta m_tb m_listed m_tells m_wanted m_found m_bits m_power2 m_rings m_ringA m_ringB m_seedNow m_tape m_keptHas m_keptFirst m_keptSecond m_pa m_pb m_pNorm m_cubed m_isOpen m_signs m_often m_la0 m_lb0 R (k51) hk51 m_taped m_has m_first m_second v1 v2 v3 v4 v5 v6 v7 v9 v12 v13 v14 _ _ _ X (lv_sub hl [0, 1, 2, 3, 4, 5, 6, 7, 8, 9, 10, 11] rfl) hf
    refine x_aload_n 279 C dX11_write_278 hl 0 rfl rfl ?_
    refine x_get 282 C dX11_write_279 X kf_X11_7 0 rfl rfl rfl ?_
    refine x_iload_n 283 C dX11_write_282 hl 3 rfl rfl ?_
    refine x_bald 284 C dX11_write_283 X 1 rfl hf rfl (fun hf => ?_)
    refine x_bipush 286 C dX11_write_284 (32 : Int32) kv_bipush_32 rfl ?_
    refine x_icmp_ne 296 289 C dX11_write_286 rfl rfl hf (fun hf => ?_) (fun hf => ?_)
    · exact w_X11_write_296 h C N x m_states m_ra m_rb m_threes m_primes m_ones m_unit m_allParts m_allNorms m_allClasses m_odd m_boxWide m_boxHigh m_boxStep m_partingMany m_qa m_qb m_la m_lb m_sa m_sb m_ta m_tb m_listed m_tells m_wanted m_found m_bits m_power2 m_rings m_ringA m_ringB m_seedNow m_tape m_keptHas m_keptFirst m_keptSecond m_pa m_pb m_pNorm m_cubed m_isOpen m_signs m_often m_la0 m_lb0 R (k51) hk51 m_taped m_has m_first m_second v1 v2 v3 v4 v5 v6 v7 v9 v12 v13 v14 _ _ _ X (lv_sub hl [0, 1, 2, 3, 4, 5, 6, 7, 8, 9, 10, 11] rfl) hf
    refine x_iload_n 290 C dX11_write_289 hl 3 rfl rfl ?_
    refine x_iconst 291 C dX11_write_290 (1 : Int32) kv_iconst_1 rfl ?_
    refine x_iadd 292 C dX11_write_291 rfl ?_
    refine x_istore_n 293 C dX11_write_292 [(3, .int (v3 + (1 : Int32))), (0, .ref (h 0)), (1, .int v1), (2, .int v2), (4, .int v4), (5, .int v5), (6, .int v6), (7, .int v7), (9, .int v9), (12, .int v12), (13, .int v13), (14, .int v14)] hl rfl rfl rfl (fun ls hl => ?_)
    refine x_goto 273 C dX11_write_293 rfl ?_
    exact ih m_taped m_has m_first m_second v1 v2 (v3 + (1 : Int32)) v4 v5 v6 v7 v9 v12 v13 v14 _ _ _ X (lv_sub hl [1, 2, 3, 0, 4, 5, 6, 7, 8, 9, 10, 11] rfl) hf
set_option maxHeartbeats 4000000 in
set_option maxRecDepth 100000 in
theorem w_X11_write_214 {E : KE} {A : Nat → Prop} {D : va_G} {T : KT} (h : Nat → Nat) (C : kx_C E cX11_write 16 (some .int) RX11 2 45 D T) (N : Nat) (x : Int32 × Int32 × (Nat → Int32) × (Nat → Int32) × (Nat → Int32)) (m_states : Int32) (m_ra m_rb : Int64) (m_threes m_primes m_ones m_unit : Int32) (m_allParts m_allNorms m_allClasses : Int64) (m_odd : Int32) (m_boxWide m_boxHigh m_boxStep : Int64) (m_partingMany : Int32) (m_qa m_qb m_la m_lb m_sa m_sb m_ta m_tb : Int64) (m_listed m_tells m_wanted m_found : Int32) (m_bits : Int64) (m_power2 m_rings m_ringA m_ringB m_seedNow : Int32) (m_tape m_keptHas m_keptFirst m_keptSecond m_pa m_pb m_pNorm m_cubed m_isOpen m_signs m_often m_la0 m_lb0 : Nat → Int32) (R : kx_RI E cX11_write D A (wM T h x.2.1 m_states m_ra m_rb m_threes m_primes m_ones m_unit m_allParts m_allNorms m_allClasses m_odd m_boxWide m_boxHigh m_boxStep m_partingMany m_qa m_qb m_la m_lb m_sa m_sb m_ta m_tb m_listed m_tells m_wanted m_found m_bits m_power2 m_rings m_ringA m_ringB m_seedNow m_tape x.2.2.1 m_keptHas x.2.2.2.1 x.2.2.2.2 m_keptFirst m_keptSecond m_pa m_pb m_pNorm m_cubed m_isOpen m_signs m_often m_la0 m_lb0) x.1) (k51 : Int32 → Int32 → Int32 → Int32 → Int32 → Int32 → Int32 → Int32 → Int32 → (Nat → Int32) → (Nat → Int32) → (Nat → Int32) → (Nat → Int32) → Option (Int32 × Int32 × (Nat → Int32) × (Nat → Int32) × (Nat → Int32))) (hk51 : ∀ (m_taped : Int32) (m_has m_first m_second : Nat → Int32) (v1 v2 v3 v4 v5 v6 v7 v8 : Int32) (H : Heap) (locs : List Loc) (ls : Array Slot), kx_H E D A H locs (wM T h m_taped m_states m_ra m_rb m_threes m_primes m_ones m_unit m_allParts m_allNorms m_allClasses m_odd m_boxWide m_boxHigh m_boxStep m_partingMany m_qa m_qb m_la m_lb m_sa m_sb m_ta m_tb m_listed m_tells m_wanted m_found m_bits m_power2 m_rings m_ringA m_ringB m_seedNow m_tape m_has m_keptHas m_first m_second m_keptFirst m_keptSecond m_pa m_pb m_pNorm m_cubed m_isOpen m_signs m_often m_la0 m_lb0) → lv_has ls 16 [(0, .ref (h 0)), (1, .int v1), (2, .int v2), (3, .int v3), (4, .int v4), (5, .int v5), (6, .int v6), (7, .int v7), (8, .int v8)] → k51 v1 v2 v3 v4 v5 v6 v7 v8 m_taped m_tape m_has m_first m_second = some x → kx_W E H locs 51 ls []) : ∀ (k : Nat), ∀ (m_taped : Int32) (m_has m_first m_second : Nat → Int32) (v1 v2 v3 v4 v5 v6 v7 v9 v12 v13 v14 : Int32) (H : Heap) (locs : List Loc) (ls : Array Slot), kx_H E D A H locs (wM T h m_taped m_states m_ra m_rb m_threes m_primes m_ones m_unit m_allParts m_allNorms m_allClasses m_odd m_boxWide m_boxHigh m_boxStep m_partingMany m_qa m_qb m_la m_lb m_sa m_sb m_ta m_tb m_listed m_tells m_wanted m_found m_bits m_power2 m_rings m_ringA m_ringB m_seedNow m_tape m_has m_keptHas m_first m_second m_keptFirst m_keptSecond m_pa m_pb m_pNorm m_cubed m_isOpen m_signs m_often m_la0 m_lb0) → lv_has ls 16 [(0, .ref (h 0)), (1, .int v1), (2, .int v2), (3, .int v3), (4, .int v4), (5, .int v5), (6, .int v6), (7, .int v7), (9, .int v9), (12, .int v12), (13, .int v13), (14, .int v14)] → f_X11_write_214 N k51 k v1 v2 v3 v4 v5 v6 v7 v9 v12 v13 v14 m_taped m_tape m_has m_first m_second = some x → kx_W E H locs 214 ls [] := by
  intro k
  induction k with
  | zero =>
    intro m_taped m_has m_first m_second v1 v2 v3 v4 v5 v6 v7 v9 v12 v13 v14 H locs ls X hl hf
    cases (show (none : Option (Int32 × Int32 × (Nat → Int32) × (Nat → Int32) × (Nat → Int32))) = some x from hf)
  | succ k ih =>
    intro m_taped m_has m_first m_second v1 v2 v3 v4 v5 v6 v7 v9 v12 v13 v14 H locs ls X hl hf
    rw [f_X11_write_214] at hf
    refine x_iload_n 215 C dX11_write_214 hl 3 rfl rfl ?_
    refine x_iload_n 216 C dX11_write_215 hl 2 rfl rfl ?_
    refine x_icmp_ge 273 219 C dX11_write_216 rfl rfl hf (fun hf => ?_) (fun hf => ?_)
    · exact w_X11_write_273 h C N x m_states m_ra m_rb m_threes m_primes m_ones m_unit m_allParts m_allNorms m_allClasses m_odd m_boxWide m_boxHigh m_boxStep m_partingMany m_qa m_qb m_la m_lb m_sa m_sb m_ta m_tb m_listed m_tells m_wanted m_found m_bits m_power2 m_rings m_ringA m_ringB m_seedNow m_tape m_keptHas m_keptFirst m_keptSecond m_pa m_pb m_pNorm m_cubed m_isOpen m_signs m_often m_la0 m_lb0 R (k51) hk51 N m_taped m_has m_first m_second v1 v2 v3 v4 v5 v6 v7 v9 v12 v13 v14 _ _ _ X (lv_sub hl [0, 1, 2, 3, 4, 5, 6, 7, 8, 9, 10, 11] rfl) hf
    refine x_aload_n 220 C dX11_write_219 hl 0 rfl rfl ?_
    refine x_get 223 C dX11_write_220 X kf_X11_7 0 rfl rfl rfl ?_
    refine x_iload_n 224 C dX11_write_223 hl 3 rfl rfl ?_
    refine x_bald 225 C dX11_write_224 X 1 rfl hf rfl (fun hf => ?_)
    obtain ⟨y225, hy225, hf⟩ := kx_bind hf
    refine x_callSi 228 C dX11_write_225 X hl kl_X11_99 (c_X11_isDigit E.2.1 D T  (m_tape (v3).toNatClampNeg)  y225 hy225) [] rfl rfl rfl rfl rfl cb_7 rfl (fun H locs X => ?_)
    refine x_if_eq 273 231 C dX11_write_228 rfl rfl hf (fun hf => ?_) (fun hf => ?_)
    · exact w_X11_write_273 h C N x m_states m_ra m_rb m_threes m_primes m_ones m_unit m_allParts m_allNorms m_allClasses m_odd m_boxWide m_boxHigh m_boxStep m_partingMany m_qa m_qb m_la m_lb m_sa m_sb m_ta m_tb m_listed m_tells m_wanted m_found m_bits m_power2 m_rings m_ringA m_ringB m_seedNow m_tape m_keptHas m_keptFirst m_keptSecond m_pa m_pb m_pNorm m_cubed m_isOpen m_signs m_often m_la0 m_lb0 R (k51) hk51 N m_taped m_has m_first m_second v1 v2 v3 v4 v5 v6 v7 v9 v12 v13 v14 _ _ _ X (lv_sub hl [0, 1, 2, 3, 4, 5, 6, 7, 8, 9, 10, 11] rfl) hf
    refine x_iload 233 C dX11_write_231 hl 11 rfl rfl ?_
    refine x_iconst 234 C dX11_write_233 (4 : Int32) kv_iconst_4 rfl ?_
    refine x_icmp_ne 243 237 C dX11_write_234 rfl rfl hf (fun hf => ?_) (fun hf => ?_)
    · refine x_bipush 245 C dX11_write_243 (10 : Int32) kv_bipush_10 rfl ?_
      refine x_iload 247 C dX11_write_245 hl 10 rfl rfl ?_
      refine x_imul 248 C dX11_write_247 rfl ?_
      refine x_aload_n 249 C dX11_write_248 hl 0 rfl rfl ?_
      refine x_get 252 C dX11_write_249 X kf_X11_7 0 rfl rfl rfl ?_
      refine x_iload_n 253 C dX11_write_252 hl 3 rfl rfl ?_
      refine x_bald 254 C dX11_write_253 X 1 rfl hf rfl (fun hf => ?_)
      refine x_iadd 255 C dX11_write_254 rfl ?_
      refine x_bipush 257 C dX11_write_255 (48 : Int32) kv_bipush_48 rfl ?_
      refine x_isub 258 C dX11_write_257 rfl ?_
      refine x_istore 260 C dX11_write_258 [(13, .int ((((10 : Int32) * v13) + (m_tape (v3).toNatClampNeg)) - (48 : Int32))), (0, .ref (h 0)), (1, .int v1), (2, .int v2), (3, .int v3), (4, .int v4), (5, .int v5), (6, .int v6), (7, .int v7), (9, .int v9), (12, .int v12), (14, .int v14)] hl rfl rfl rfl (fun ls hl => ?_)
      refine x_iload 262 C dX11_write_260 hl 11 rfl rfl ?_
      refine x_iconst 263 C dX11_write_262 (1 : Int32) kv_iconst_1 rfl ?_
      refine x_iadd 264 C dX11_write_263 rfl ?_
      refine x_istore 266 C dX11_write_264 [(14, .int (v14 + (1 : Int32))), (13, .int ((((10 : Int32) * v13) + (m_tape (v3).toNatClampNeg)) - (48 : Int32))), (0, .ref (h 0)), (1, .int v1), (2, .int v2), (3, .int v3), (4, .int v4), (5, .int v5), (6, .int v6), (7, .int v7), (9, .int v9), (12, .int v12)] hl rfl rfl rfl (fun ls hl => ?_)
      refine x_iload_n 267 C dX11_write_266 hl 5 rfl rfl ?_
      refine x_iconst 268 C dX11_write_267 (1 : Int32) kv_iconst_1 rfl ?_
      refine x_iadd 269 C dX11_write_268 rfl ?_
      refine x_istore_n 270 C dX11_write_269 [(3, .int (v3 + (1 : Int32))), (14, .int (v14 + (1 : Int32))), (13, .int ((((10 : Int32) * v13) + (m_tape (v3).toNatClampNeg)) - (48 : Int32))), (0, .ref (h 0)), (1, .int v1), (2, .int v2), (4, .int v4), (5, .int v5), (6, .int v6), (7, .int v7), (9, .int v9), (12, .int v12)] hl rfl rfl rfl (fun ls hl => ?_)
      refine x_goto 214 C dX11_write_270 rfl ?_
      exact ih m_taped m_has m_first m_second v1 v2 (v3 + (1 : Int32)) v4 v5 v6 v7 v9 v12 ((((10 : Int32) * v13) + (m_tape (v3).toNatClampNeg)) - (48 : Int32)) (v14 + (1 : Int32)) _ _ _ X (lv_sub hl [3, 4, 5, 0, 6, 7, 8, 9, 10, 11, 2, 1] rfl) hf
    refine x_sipush 240 C dX11_write_237 (-2000 : Int32) kv_sipush_m2000 rfl ?_
    refine x_iload_n 241 C dX11_write_240 hl 3 rfl rfl ?_
    refine x_isub 242 C dX11_write_241 rfl ?_
    obtain rfl := Option.some.inj hf
    exact R _ _ _ _ X dX11_write_242
set_option maxHeartbeats 4000000 in
set_option maxRecDepth 100000 in
theorem w_X11_write_185 {E : KE} {A : Nat → Prop} {D : va_G} {T : KT} (h : Nat → Nat) (C : kx_C E cX11_write 16 (some .int) RX11 2 45 D T) (N : Nat) (x : Int32 × Int32 × (Nat → Int32) × (Nat → Int32) × (Nat → Int32)) (m_states : Int32) (m_ra m_rb : Int64) (m_threes m_primes m_ones m_unit : Int32) (m_allParts m_allNorms m_allClasses : Int64) (m_odd : Int32) (m_boxWide m_boxHigh m_boxStep : Int64) (m_partingMany : Int32) (m_qa m_qb m_la m_lb m_sa m_sb m_ta m_tb : Int64) (m_listed m_tells m_wanted m_found : Int32) (m_bits : Int64) (m_power2 m_rings m_ringA m_ringB m_seedNow : Int32) (m_tape m_keptHas m_keptFirst m_keptSecond m_pa m_pb m_pNorm m_cubed m_isOpen m_signs m_often m_la0 m_lb0 : Nat → Int32) (R : kx_RI E cX11_write D A (wM T h x.2.1 m_states m_ra m_rb m_threes m_primes m_ones m_unit m_allParts m_allNorms m_allClasses m_odd m_boxWide m_boxHigh m_boxStep m_partingMany m_qa m_qb m_la m_lb m_sa m_sb m_ta m_tb m_listed m_tells m_wanted m_found m_bits m_power2 m_rings m_ringA m_ringB m_seedNow m_tape x.2.2.1 m_keptHas x.2.2.2.1 x.2.2.2.2 m_keptFirst m_keptSecond m_pa m_pb m_pNorm m_cubed m_isOpen m_signs m_often m_la0 m_lb0) x.1) (k51 : Int32 → Int32 → Int32 → Int32 → Int32 → Int32 → Int32 → Int32 → Int32 → (Nat → Int32) → (Nat → Int32) → (Nat → Int32) → (Nat → Int32) → Option (Int32 × Int32 × (Nat → Int32) × (Nat → Int32) × (Nat → Int32))) (hk51 : ∀ (m_taped : Int32) (m_has m_first m_second : Nat → Int32) (v1 v2 v3 v4 v5 v6 v7 v8 : Int32) (H : Heap) (locs : List Loc) (ls : Array Slot), kx_H E D A H locs (wM T h m_taped m_states m_ra m_rb m_threes m_primes m_ones m_unit m_allParts m_allNorms m_allClasses m_odd m_boxWide m_boxHigh m_boxStep m_partingMany m_qa m_qb m_la m_lb m_sa m_sb m_ta m_tb m_listed m_tells m_wanted m_found m_bits m_power2 m_rings m_ringA m_ringB m_seedNow m_tape m_has m_keptHas m_first m_second m_keptFirst m_keptSecond m_pa m_pb m_pNorm m_cubed m_isOpen m_signs m_often m_la0 m_lb0) → lv_has ls 16 [(0, .ref (h 0)), (1, .int v1), (2, .int v2), (3, .int v3), (4, .int v4), (5, .int v5), (6, .int v6), (7, .int v7), (8, .int v8)] → k51 v1 v2 v3 v4 v5 v6 v7 v8 m_taped m_tape m_has m_first m_second = some x → kx_W E H locs 51 ls []) : ∀ (k : Nat), ∀ (m_taped : Int32) (m_has m_first m_second : Nat → Int32) (v1 v2 v3 v4 v5 v6 v7 v9 v12 : Int32) (H : Heap) (locs : List Loc) (ls : Array Slot), kx_H E D A H locs (wM T h m_taped m_states m_ra m_rb m_threes m_primes m_ones m_unit m_allParts m_allNorms m_allClasses m_odd m_boxWide m_boxHigh m_boxStep m_partingMany m_qa m_qb m_la m_lb m_sa m_sb m_ta m_tb m_listed m_tells m_wanted m_found m_bits m_power2 m_rings m_ringA m_ringB m_seedNow m_tape m_has m_keptHas m_first m_second m_keptFirst m_keptSecond m_pa m_pb m_pNorm m_cubed m_isOpen m_signs m_often m_la0 m_lb0) → lv_has ls 16 [(0, .ref (h 0)), (1, .int v1), (2, .int v2), (3, .int v3), (4, .int v4), (5, .int v5), (6, .int v6), (7, .int v7), (9, .int v9), (12, .int v12)] → f_X11_write_185 N k51 k v1 v2 v3 v4 v5 v6 v7 v9 v12 m_taped m_tape m_has m_first m_second = some x → kx_W E H locs 185 ls [] := by
  intro k
  induction k with
  | zero =>
    intro m_taped m_has m_first m_second v1 v2 v3 v4 v5 v6 v7 v9 v12 H locs ls X hl hf
    cases (show (none : Option (Int32 × Int32 × (Nat → Int32) × (Nat → Int32) × (Nat → Int32))) = some x from hf)
  | succ k ih =>
    intro m_taped m_has m_first m_second v1 v2 v3 v4 v5 v6 v7 v9 v12 H locs ls X hl hf
    rw [f_X11_write_185] at hf
    refine x_iload_n 186 C dX11_write_185 hl 3 rfl rfl ?_
    refine x_iload_n 187 C dX11_write_186 hl 2 rfl rfl ?_
    refine x_icmp_ge 208 190 C dX11_write_187 rfl rfl hf (fun hf => ?_) (fun hf => ?_)
    · refine x_iconst 209 C dX11_write_208 (0 : Int32) kv_iconst_0 rfl ?_
      refine x_istore 211 C dX11_write_209 [(13, .int (0 : Int32)), (0, .ref (h 0)), (1, .int v1), (2, .int v2), (3, .int v3), (4, .int v4), (5, .int v5), (6, .int v6), (7, .int v7), (9, .int v9), (12, .int v12)] hl rfl rfl rfl (fun ls hl => ?_)
      refine x_iconst 212 C dX11_write_211 (0 : Int32) kv_iconst_0 rfl ?_
      refine x_istore 214 C dX11_write_212 [(14, .int (0 : Int32)), (13, .int (0 : Int32)), (0, .ref (h 0)), (1, .int v1), (2, .int v2), (3, .int v3), (4, .int v4), (5, .int v5), (6, .int v6), (7, .int v7), (9, .int v9), (12, .int v12)] hl rfl rfl rfl (fun ls hl => ?_)
      exact w_X11_write_214 h C N x m_states m_ra m_rb m_threes m_primes m_ones m_unit m_allParts m_allNorms m_allClasses m_odd m_boxWide m_boxHigh m_boxStep m_partingMany m_qa m_qb m_la m_lb m_sa m_sb m_ta m_tb m_listed m_tells m_wanted m_found m_bits m_power2 m_rings m_ringA m_ringB m_seedNow m_tape m_keptHas m_keptFirst m_keptSecond m_pa m_pb m_pNorm m_cubed m_isOpen m_signs m_often m_la0 m_lb0 R (k51) hk51 N m_taped m_has m_first m_second v1 v2 v3 v4 v5 v6 v7 v9 v12 (0 : Int32) (0 : Int32) _ _ _ X (lv_sub hl [2, 3, 4, 5, 6, 7, 8, 9, 10, 11, 1, 0] rfl) hf
    refine x_aload_n 191 C dX11_write_190 hl 0 rfl rfl ?_
    refine x_get 194 C dX11_write_191 X kf_X11_7 0 rfl rfl rfl ?_
    refine x_iload_n 195 C dX11_write_194 hl 3 rfl rfl ?_
    refine x_bald 196 C dX11_write_195 X 1 rfl hf rfl (fun hf => ?_)
    refine x_bipush 198 C dX11_write_196 (32 : Int32) kv_bipush_32 rfl ?_
    refine x_icmp_ne 208 201 C dX11_write_198 rfl rfl hf (fun hf => ?_) (fun hf => ?_)
    · refine x_iconst 209 C dX11_write_208 (0 : Int32) kv_iconst_0 rfl ?_
      refine x_istore 211 C dX11_write_209 [(13, .int (0 : Int32)), (0, .ref (h 0)), (1, .int v1), (2, .int v2), (3, .int v3), (4, .int v4), (5, .int v5), (6, .int v6), (7, .int v7), (9, .int v9), (12, .int v12)] hl rfl rfl rfl (fun ls hl => ?_)
      refine x_iconst 212 C dX11_write_211 (0 : Int32) kv_iconst_0 rfl ?_
      refine x_istore 214 C dX11_write_212 [(14, .int (0 : Int32)), (13, .int (0 : Int32)), (0, .ref (h 0)), (1, .int v1), (2, .int v2), (3, .int v3), (4, .int v4), (5, .int v5), (6, .int v6), (7, .int v7), (9, .int v9), (12, .int v12)] hl rfl rfl rfl (fun ls hl => ?_)
      exact w_X11_write_214 h C N x m_states m_ra m_rb m_threes m_primes m_ones m_unit m_allParts m_allNorms m_allClasses m_odd m_boxWide m_boxHigh m_boxStep m_partingMany m_qa m_qb m_la m_lb m_sa m_sb m_ta m_tb m_listed m_tells m_wanted m_found m_bits m_power2 m_rings m_ringA m_ringB m_seedNow m_tape m_keptHas m_keptFirst m_keptSecond m_pa m_pb m_pNorm m_cubed m_isOpen m_signs m_often m_la0 m_lb0 R (k51) hk51 N m_taped m_has m_first m_second v1 v2 v3 v4 v5 v6 v7 v9 v12 (0 : Int32) (0 : Int32) _ _ _ X (lv_sub hl [2, 3, 4, 5, 6, 7, 8, 9, 10, 11, 1, 0] rfl) hf
    refine x_iload_n 202 C dX11_write_201 hl 3 rfl rfl ?_
    refine x_iconst 203 C dX11_write_202 (1 : Int32) kv_iconst_1 rfl ?_
    refine x_iadd 204 C dX11_write_203 rfl ?_
    refine x_istore_n 205 C dX11_write_204 [(3, .int (v3 + (1 : Int32))), (0, .ref (h 0)), (1, .int v1), (2, .int v2), (4, .int v4), (5, .int v5), (6, .int v6), (7, .int v7), (9, .int v9), (12, .int v12)] hl rfl rfl rfl (fun ls hl => ?_)
    refine x_goto 185 C dX11_write_205 rfl ?_
    exact ih m_taped m_has m_first m_second v1 v2 (v3 + (1 : Int32)) v4 v5 v6 v7 v9 v12 _ _ _ X (lv_sub hl [1, 2, 3, 0, 4, 5, 6, 7, 8, 9] rfl) hf
set_option maxHeartbeats 4000000 in
set_option maxRecDepth 100000 in
theorem w_X11_write_169 {E : KE} {A : Nat → Prop} {D : va_G} {T : KT} (h : Nat → Nat) (C : kx_C E cX11_write 16 (some .int) RX11 2 45 D T) (N : Nat) (x : Int32 × Int32 × (Nat → Int32) × (Nat → Int32) × (Nat → Int32)) (m_states : Int32) (m_ra m_rb : Int64) (m_threes m_primes m_ones m_unit : Int32) (m_allParts m_allNorms m_allClasses : Int64) (m_odd : Int32) (m_boxWide m_boxHigh m_boxStep : Int64) (m_partingMany : Int32) (m_qa m_qb m_la m_lb m_sa m_sb m_ta m_tb : Int64) (m_listed m_tells m_wanted m_found : Int32) (m_bits : Int64) (m_power2 m_rings m_ringA m_ringB m_seedNow : Int32) (m_tape m_keptHas m_keptFirst m_keptSecond m_pa m_pb m_pNorm m_cubed m_isOpen m_signs m_often m_la0 m_lb0 : Nat → Int32) (R : kx_RI E cX11_write D A (wM T h x.2.1 m_states m_ra m_rb m_threes m_primes m_ones m_unit m_allParts m_allNorms m_allClasses m_odd m_boxWide m_boxHigh m_boxStep m_partingMany m_qa m_qb m_la m_lb m_sa m_sb m_ta m_tb m_listed m_tells m_wanted m_found m_bits m_power2 m_rings m_ringA m_ringB m_seedNow m_tape x.2.2.1 m_keptHas x.2.2.2.1 x.2.2.2.2 m_keptFirst m_keptSecond m_pa m_pb m_pNorm m_cubed m_isOpen m_signs m_often m_la0 m_lb0) x.1) (k51 : Int32 → Int32 → Int32 → Int32 → Int32 → Int32 → Int32 → Int32 → Int32 → (Nat → Int32) → (Nat → Int32) → (Nat → Int32) → (Nat → Int32) → Option (Int32 × Int32 × (Nat → Int32) × (Nat → Int32) × (Nat → Int32))) (hk51 : ∀ (m_taped : Int32) (m_has m_first m_second : Nat → Int32) (v1 v2 v3 v4 v5 v6 v7 v8 : Int32) (H : Heap) (locs : List Loc) (ls : Array Slot), kx_H E D A H locs (wM T h m_taped m_states m_ra m_rb m_threes m_primes m_ones m_unit m_allParts m_allNorms m_allClasses m_odd m_boxWide m_boxHigh m_boxStep m_partingMany m_qa m_qb m_la m_lb m_sa m_sb m_ta m_tb m_listed m_tells m_wanted m_found m_bits m_power2 m_rings m_ringA m_ringB m_seedNow m_tape m_has m_keptHas m_first m_second m_keptFirst m_keptSecond m_pa m_pb m_pNorm m_cubed m_isOpen m_signs m_often m_la0 m_lb0) → lv_has ls 16 [(0, .ref (h 0)), (1, .int v1), (2, .int v2), (3, .int v3), (4, .int v4), (5, .int v5), (6, .int v6), (7, .int v7), (8, .int v8)] → k51 v1 v2 v3 v4 v5 v6 v7 v8 m_taped m_tape m_has m_first m_second = some x → kx_W E H locs 51 ls []) : ∀ (m_taped : Int32) (m_has m_first m_second : Nat → Int32) (v1 v2 v3 v4 v5 v6 v7 v9 v11 : Int32) (H : Heap) (locs : List Loc) (ls : Array Slot), kx_H E D A H locs (wM T h m_taped m_states m_ra m_rb m_threes m_primes m_ones m_unit m_allParts m_allNorms m_allClasses m_odd m_boxWide m_boxHigh m_boxStep m_partingMany m_qa m_qb m_la m_lb m_sa m_sb m_ta m_tb m_listed m_tells m_wanted m_found m_bits m_power2 m_rings m_ringA m_ringB m_seedNow m_tape m_has m_keptHas m_first m_second m_keptFirst m_keptSecond m_pa m_pb m_pNorm m_cubed m_isOpen m_signs m_often m_la0 m_lb0) → lv_has ls 16 [(0, .ref (h 0)), (1, .int v1), (2, .int v2), (3, .int v3), (4, .int v4), (5, .int v5), (6, .int v6), (7, .int v7), (9, .int v9), (11, .int v11)] → f_X11_write_169 N k51 v1 v2 v3 v4 v5 v6 v7 v9 v11 m_taped m_tape m_has m_first m_second = some x → kx_W E H locs 169 ls [] := by
  intro m_taped m_has m_first m_second v1 v2 v3 v4 v5 v6 v7 v9 v11 H locs ls X hl hf
  rw [f_X11_write_169] at hf
  refine x_iconst 170 C dX11_write_169 (0 : Int32) kv_iconst_0 rfl ?_
  refine x_istore 172 C dX11_write_170 [(12, .int (0 : Int32)), (0, .ref (h 0)), (1, .int v1), (2, .int v2), (3, .int v3), (4, .int v4), (5, .int v5), (6, .int v6), (7, .int v7), (9, .int v9), (11, .int v11)] hl rfl rfl rfl (fun ls hl => ?_)
  refine x_iload 174 C dX11_write_172 hl 10 rfl rfl ?_
  refine x_if_eq 183 177 C dX11_write_174 rfl rfl hf (fun hf => ?_) (fun hf => ?_)
  · refine x_iload_n 184 C dX11_write_183 hl 4 rfl rfl ?_
    refine x_istore_n 185 C dX11_write_184 [(3, .int v3), (12, .int (0 : Int32)), (0, .ref (h 0)), (1, .int v1), (2, .int v2), (4, .int v4), (5, .int v5), (6, .int v6), (7, .int v7), (9, .int v9), (11, .int v11)] hl rfl rfl rfl (fun ls hl => ?_)
    exact w_X11_write_185 h C N x m_states m_ra m_rb m_threes m_primes m_ones m_unit m_allParts m_allNorms m_allClasses m_odd m_boxWide m_boxHigh m_boxStep m_partingMany m_qa m_qb m_la m_lb m_sa m_sb m_ta m_tb m_listed m_tells m_wanted m_found m_bits m_power2 m_rings m_ringA m_ringB m_seedNow m_tape m_keptHas m_keptFirst m_keptSecond m_pa m_pb m_pNorm m_cubed m_isOpen m_signs m_often m_la0 m_lb0 R (k51) hk51 N m_taped m_has m_first m_second v1 v2 v3 v4 v5 v6 v7 v9 (0 : Int32) _ _ _ X (lv_sub hl [2, 3, 4, 0, 5, 6, 7, 8, 9, 1] rfl) hf
  refine x_iload_n 178 C dX11_write_177 hl 4 rfl rfl ?_
  refine x_iconst 179 C dX11_write_178 (1 : Int32) kv_iconst_1 rfl ?_
  refine x_iadd 180 C dX11_write_179 rfl ?_
  refine x_goto 184 C dX11_write_180 rfl ?_
  refine x_istore_n 185 C dX11_write_184 [(3, .int (v3 + (1 : Int32))), (12, .int (0 : Int32)), (0, .ref (h 0)), (1, .int v1), (2, .int v2), (4, .int v4), (5, .int v5), (6, .int v6), (7, .int v7), (9, .int v9), (11, .int v11)] hl rfl rfl rfl (fun ls hl => ?_)
  exact w_X11_write_185 h C N x m_states m_ra m_rb m_threes m_primes m_ones m_unit m_allParts m_allNorms m_allClasses m_odd m_boxWide m_boxHigh m_boxStep m_partingMany m_qa m_qb m_la m_lb m_sa m_sb m_ta m_tb m_listed m_tells m_wanted m_found m_bits m_power2 m_rings m_ringA m_ringB m_seedNow m_tape m_keptHas m_keptFirst m_keptSecond m_pa m_pb m_pNorm m_cubed m_isOpen m_signs m_often m_la0 m_lb0 R (k51) hk51 N m_taped m_has m_first m_second v1 v2 (v3 + (1 : Int32)) v4 v5 v6 v7 v9 (0 : Int32) _ _ _ X (lv_sub hl [2, 3, 4, 0, 5, 6, 7, 8, 9, 1] rfl) hf
set_option maxHeartbeats 4000000 in
set_option maxRecDepth 100000 in
theorem w_X11_write_149 {E : KE} {A : Nat → Prop} {D : va_G} {T : KT} (h : Nat → Nat) (C : kx_C E cX11_write 16 (some .int) RX11 2 45 D T) (N : Nat) (x : Int32 × Int32 × (Nat → Int32) × (Nat → Int32) × (Nat → Int32)) (m_states : Int32) (m_ra m_rb : Int64) (m_threes m_primes m_ones m_unit : Int32) (m_allParts m_allNorms m_allClasses : Int64) (m_odd : Int32) (m_boxWide m_boxHigh m_boxStep : Int64) (m_partingMany : Int32) (m_qa m_qb m_la m_lb m_sa m_sb m_ta m_tb : Int64) (m_listed m_tells m_wanted m_found : Int32) (m_bits : Int64) (m_power2 m_rings m_ringA m_ringB m_seedNow : Int32) (m_tape m_keptHas m_keptFirst m_keptSecond m_pa m_pb m_pNorm m_cubed m_isOpen m_signs m_often m_la0 m_lb0 : Nat → Int32) (R : kx_RI E cX11_write D A (wM T h x.2.1 m_states m_ra m_rb m_threes m_primes m_ones m_unit m_allParts m_allNorms m_allClasses m_odd m_boxWide m_boxHigh m_boxStep m_partingMany m_qa m_qb m_la m_lb m_sa m_sb m_ta m_tb m_listed m_tells m_wanted m_found m_bits m_power2 m_rings m_ringA m_ringB m_seedNow m_tape x.2.2.1 m_keptHas x.2.2.2.1 x.2.2.2.2 m_keptFirst m_keptSecond m_pa m_pb m_pNorm m_cubed m_isOpen m_signs m_often m_la0 m_lb0) x.1) (k51 : Int32 → Int32 → Int32 → Int32 → Int32 → Int32 → Int32 → Int32 → Int32 → (Nat → Int32) → (Nat → Int32) → (Nat → Int32) → (Nat → Int32) → Option (Int32 × Int32 × (Nat → Int32) × (Nat → Int32) × (Nat → Int32))) (hk51 : ∀ (m_taped : Int32) (m_has m_first m_second : Nat → Int32) (v1 v2 v3 v4 v5 v6 v7 v8 : Int32) (H : Heap) (locs : List Loc) (ls : Array Slot), kx_H E D A H locs (wM T h m_taped m_states m_ra m_rb m_threes m_primes m_ones m_unit m_allParts m_allNorms m_allClasses m_odd m_boxWide m_boxHigh m_boxStep m_partingMany m_qa m_qb m_la m_lb m_sa m_sb m_ta m_tb m_listed m_tells m_wanted m_found m_bits m_power2 m_rings m_ringA m_ringB m_seedNow m_tape m_has m_keptHas m_first m_second m_keptFirst m_keptSecond m_pa m_pb m_pNorm m_cubed m_isOpen m_signs m_often m_la0 m_lb0) → lv_has ls 16 [(0, .ref (h 0)), (1, .int v1), (2, .int v2), (3, .int v3), (4, .int v4), (5, .int v5), (6, .int v6), (7, .int v7), (8, .int v8)] → k51 v1 v2 v3 v4 v5 v6 v7 v8 m_taped m_tape m_has m_first m_second = some x → kx_W E H locs 51 ls []) : ∀ (m_taped : Int32) (m_has m_first m_second : Nat → Int32) (v1 v2 v3 v4 v5 v6 v7 v9 v11 : Int32) (H : Heap) (locs : List Loc) (ls : Array Slot), kx_H E D A H locs (wM T h m_taped m_states m_ra m_rb m_threes m_primes m_ones m_unit m_allParts m_allNorms m_allClasses m_odd m_boxWide m_boxHigh m_boxStep m_partingMany m_qa m_qb m_la m_lb m_sa m_sb m_ta m_tb m_listed m_tells m_wanted m_found m_bits m_power2 m_rings m_ringA m_ringB m_seedNow m_tape m_has m_keptHas m_first m_second m_keptFirst m_keptSecond m_pa m_pb m_pNorm m_cubed m_isOpen m_signs m_often m_la0 m_lb0) → lv_has ls 16 [(0, .ref (h 0)), (1, .int v1), (2, .int v2), (3, .int v3), (4, .int v4), (5, .int v5), (6, .int v6), (7, .int v7), (9, .int v9), (11, .int v11)] → f_X11_write_149 N k51 v1 v2 v3 v4 v5 v6 v7 v9 v11 m_taped m_tape m_has m_first m_second = some x → kx_W E H locs 149 ls [] := by
  intro m_taped m_has m_first m_second v1 v2 v3 v4 v5 v6 v7 v9 v11 H locs ls X hl hf
  rw [f_X11_write_149] at hf
  refine x_iload 151 C dX11_write_149 hl 9 rfl rfl ?_
  refine x_if_eq 169 154 C dX11_write_151 rfl rfl hf (fun hf => ?_) (fun hf => ?_)
  · exact w_X11_write_169 h C N x m_states m_ra m_rb m_threes m_primes m_ones m_unit m_allParts m_allNorms m_allClasses m_odd m_boxWide m_boxHigh m_boxStep m_partingMany m_qa m_qb m_la m_lb m_sa m_sb m_ta m_tb m_listed m_tells m_wanted m_found m_bits m_power2 m_rings m_ringA m_ringB m_seedNow m_tape m_keptHas m_keptFirst m_keptSecond m_pa m_pb m_pNorm m_cubed m_isOpen m_signs m_often m_la0 m_lb0 R (k51) hk51 m_taped m_has m_first m_second v1 v2 v3 v4 v5 v6 v7 v9 v11 _ _ _ X (lv_sub hl [0, 1, 2, 3, 4, 5, 6, 7, 8, 9] rfl) hf
  refine x_aload_n 155 C dX11_write_154 hl 0 rfl rfl ?_
  refine x_get 158 C dX11_write_155 X kf_X11_7 0 rfl rfl rfl ?_
  refine x_iload_n 159 C dX11_write_158 hl 3 rfl rfl ?_
  refine x_bald 160 C dX11_write_159 X 1 rfl hf rfl (fun hf => ?_)
  refine x_bipush 162 C dX11_write_160 (45 : Int32) kv_bipush_45 rfl ?_
  refine x_icmp_ne 169 165 C dX11_write_162 rfl rfl hf (fun hf => ?_) (fun hf => ?_)
  · exact w_X11_write_169 h C N x m_states m_ra m_rb m_threes m_primes m_ones m_unit m_allParts m_allNorms m_allClasses m_odd m_boxWide m_boxHigh m_boxStep m_partingMany m_qa m_qb m_la m_lb m_sa m_sb m_ta m_tb m_listed m_tells m_wanted m_found m_bits m_power2 m_rings m_ringA m_ringB m_seedNow m_tape m_keptHas m_keptFirst m_keptSecond m_pa m_pb m_pNorm m_cubed m_isOpen m_signs m_often m_la0 m_lb0 R (k51) hk51 m_taped m_has m_first m_second v1 v2 v3 v4 v5 v6 v7 v9 v11 _ _ _ X (lv_sub hl [0, 1, 2, 3, 4, 5, 6, 7, 8, 9] rfl) hf
  refine x_iconst 166 C dX11_write_165 (1 : Int32) kv_iconst_1 rfl ?_
  refine x_goto 170 C dX11_write_166 rfl ?_
  refine x_istore 172 C dX11_write_170 [(12, .int (1 : Int32)), (0, .ref (h 0)), (1, .int v1), (2, .int v2), (3, .int v3), (4, .int v4), (5, .int v5), (6, .int v6), (7, .int v7), (9, .int v9), (11, .int v11)] hl rfl rfl rfl (fun ls hl => ?_)
  refine x_iload 174 C dX11_write_172 hl 10 rfl rfl ?_
  refine x_if_eq 183 177 C dX11_write_174 rfl rfl hf (fun hf => ?_) (fun hf => ?_)
  · refine x_iload_n 184 C dX11_write_183 hl 4 rfl rfl ?_
    refine x_istore_n 185 C dX11_write_184 [(3, .int v3), (12, .int (1 : Int32)), (0, .ref (h 0)), (1, .int v1), (2, .int v2), (4, .int v4), (5, .int v5), (6, .int v6), (7, .int v7), (9, .int v9), (11, .int v11)] hl rfl rfl rfl (fun ls hl => ?_)
    exact w_X11_write_185 h C N x m_states m_ra m_rb m_threes m_primes m_ones m_unit m_allParts m_allNorms m_allClasses m_odd m_boxWide m_boxHigh m_boxStep m_partingMany m_qa m_qb m_la m_lb m_sa m_sb m_ta m_tb m_listed m_tells m_wanted m_found m_bits m_power2 m_rings m_ringA m_ringB m_seedNow m_tape m_keptHas m_keptFirst m_keptSecond m_pa m_pb m_pNorm m_cubed m_isOpen m_signs m_often m_la0 m_lb0 R (k51) hk51 N m_taped m_has m_first m_second v1 v2 v3 v4 v5 v6 v7 v9 (1 : Int32) _ _ _ X (lv_sub hl [2, 3, 4, 0, 5, 6, 7, 8, 9, 1] rfl) hf
  refine x_iload_n 178 C dX11_write_177 hl 4 rfl rfl ?_
  refine x_iconst 179 C dX11_write_178 (1 : Int32) kv_iconst_1 rfl ?_
  refine x_iadd 180 C dX11_write_179 rfl ?_
  refine x_goto 184 C dX11_write_180 rfl ?_
  refine x_istore_n 185 C dX11_write_184 [(3, .int (v3 + (1 : Int32))), (12, .int (1 : Int32)), (0, .ref (h 0)), (1, .int v1), (2, .int v2), (4, .int v4), (5, .int v5), (6, .int v6), (7, .int v7), (9, .int v9), (11, .int v11)] hl rfl rfl rfl (fun ls hl => ?_)
  exact w_X11_write_185 h C N x m_states m_ra m_rb m_threes m_primes m_ones m_unit m_allParts m_allNorms m_allClasses m_odd m_boxWide m_boxHigh m_boxStep m_partingMany m_qa m_qb m_la m_lb m_sa m_sb m_ta m_tb m_listed m_tells m_wanted m_found m_bits m_power2 m_rings m_ringA m_ringB m_seedNow m_tape m_keptHas m_keptFirst m_keptSecond m_pa m_pb m_pNorm m_cubed m_isOpen m_signs m_often m_la0 m_lb0 R (k51) hk51 N m_taped m_has m_first m_second v1 v2 (v3 + (1 : Int32)) v4 v5 v6 v7 v9 (1 : Int32) _ _ _ X (lv_sub hl [2, 3, 4, 0, 5, 6, 7, 8, 9, 1] rfl) hf
set_option maxHeartbeats 4000000 in
set_option maxRecDepth 100000 in
theorem w_X11_write_126 {E : KE} {A : Nat → Prop} {D : va_G} {T : KT} (h : Nat → Nat) (C : kx_C E cX11_write 16 (some .int) RX11 2 45 D T) (N : Nat) (x : Int32 × Int32 × (Nat → Int32) × (Nat → Int32) × (Nat → Int32)) (m_states : Int32) (m_ra m_rb : Int64) (m_threes m_primes m_ones m_unit : Int32) (m_allParts m_allNorms m_allClasses : Int64) (m_odd : Int32) (m_boxWide m_boxHigh m_boxStep : Int64) (m_partingMany : Int32) (m_qa m_qb m_la m_lb m_sa m_sb m_ta m_tb : Int64) (m_listed m_tells m_wanted m_found : Int32) (m_bits : Int64) (m_power2 m_rings m_ringA m_ringB m_seedNow : Int32) (m_tape m_keptHas m_keptFirst m_keptSecond m_pa m_pb m_pNorm m_cubed m_isOpen m_signs m_often m_la0 m_lb0 : Nat → Int32) (R : kx_RI E cX11_write D A (wM T h x.2.1 m_states m_ra m_rb m_threes m_primes m_ones m_unit m_allParts m_allNorms m_allClasses m_odd m_boxWide m_boxHigh m_boxStep m_partingMany m_qa m_qb m_la m_lb m_sa m_sb m_ta m_tb m_listed m_tells m_wanted m_found m_bits m_power2 m_rings m_ringA m_ringB m_seedNow m_tape x.2.2.1 m_keptHas x.2.2.2.1 x.2.2.2.2 m_keptFirst m_keptSecond m_pa m_pb m_pNorm m_cubed m_isOpen m_signs m_often m_la0 m_lb0) x.1) (k51 : Int32 → Int32 → Int32 → Int32 → Int32 → Int32 → Int32 → Int32 → Int32 → (Nat → Int32) → (Nat → Int32) → (Nat → Int32) → (Nat → Int32) → Option (Int32 × Int32 × (Nat → Int32) × (Nat → Int32) × (Nat → Int32))) (hk51 : ∀ (m_taped : Int32) (m_has m_first m_second : Nat → Int32) (v1 v2 v3 v4 v5 v6 v7 v8 : Int32) (H : Heap) (locs : List Loc) (ls : Array Slot), kx_H E D A H locs (wM T h m_taped m_states m_ra m_rb m_threes m_primes m_ones m_unit m_allParts m_allNorms m_allClasses m_odd m_boxWide m_boxHigh m_boxStep m_partingMany m_qa m_qb m_la m_lb m_sa m_sb m_ta m_tb m_listed m_tells m_wanted m_found m_bits m_power2 m_rings m_ringA m_ringB m_seedNow m_tape m_has m_keptHas m_first m_second m_keptFirst m_keptSecond m_pa m_pb m_pNorm m_cubed m_isOpen m_signs m_often m_la0 m_lb0) → lv_has ls 16 [(0, .ref (h 0)), (1, .int v1), (2, .int v2), (3, .int v3), (4, .int v4), (5, .int v5), (6, .int v6), (7, .int v7), (8, .int v8)] → k51 v1 v2 v3 v4 v5 v6 v7 v8 m_taped m_tape m_has m_first m_second = some x → kx_W E H locs 51 ls []) : ∀ (m_taped : Int32) (m_has m_first m_second : Nat → Int32) (v1 v2 v3 v4 v5 v6 v7 v9 v10 : Int32) (H : Heap) (locs : List Loc) (ls : Array Slot), kx_H E D A H locs (wM T h m_taped m_states m_ra m_rb m_threes m_primes m_ones m_unit m_allParts m_allNorms m_allClasses m_odd m_boxWide m_boxHigh m_boxStep m_partingMany m_qa m_qb m_la m_lb m_sa m_sb m_ta m_tb m_listed m_tells m_wanted m_found m_bits m_power2 m_rings m_ringA m_ringB m_seedNow m_tape m_has m_keptHas m_first m_second m_keptFirst m_keptSecond m_pa m_pb m_pNorm m_cubed m_isOpen m_signs m_often m_la0 m_lb0) → lv_has ls 16 [(0, .ref (h 0)), (1, .int v1), (2, .int v2), (3, .int v3), (4, .int v4), (5, .int v5), (6, .int v6), (7, .int v7), (9, .int v9), (10, .int v10)] → f_X11_write_126 N k51 v1 v2 v3 v4 v5 v6 v7 v9 v10 m_taped m_tape m_has m_first m_second = some x → kx_W E H locs 126 ls [] := by
  intro m_taped m_has m_first m_second v1 v2 v3 v4 v5 v6 v7 v9 v10 H locs ls X hl hf
  rw [f_X11_write_126] at hf
  refine x_iconst 127 C dX11_write_126 (1 : Int32) kv_iconst_1 rfl ?_
  refine x_goto 131 C dX11_write_127 rfl ?_
  refine x_istore 133 C dX11_write_131 [(11, .int (1 : Int32)), (0, .ref (h 0)), (1, .int v1), (2, .int v2), (3, .int v3), (4, .int v4), (5, .int v5), (6, .int v6), (7, .int v7), (9, .int v9), (10, .int v10)] hl rfl rfl rfl (fun ls hl => ?_)
  refine x_iload 135 C dX11_write_133 hl 0 rfl rfl ?_
  refine x_if_ne 149 138 C dX11_write_135 rfl rfl hf (fun hf => ?_) (fun hf => ?_)
  · exact w_X11_write_149 h C N x m_states m_ra m_rb m_threes m_primes m_ones m_unit m_allParts m_allNorms m_allClasses m_odd m_boxWide m_boxHigh m_boxStep m_partingMany m_qa m_qb m_la m_lb m_sa m_sb m_ta m_tb m_listed m_tells m_wanted m_found m_bits m_power2 m_rings m_ringA m_ringB m_seedNow m_tape m_keptHas m_keptFirst m_keptSecond m_pa m_pb m_pNorm m_cubed m_isOpen m_signs m_often m_la0 m_lb0 R (k51) hk51 m_taped m_has m_first m_second v1 v2 v3 v4 v5 v6 v7 v9 (1 : Int32) _ _ _ X (lv_sub hl [1, 2, 3, 4, 5, 6, 7, 8, 9, 0] rfl) hf
  refine x_iload 140 C dX11_write_138 hl 10 rfl rfl ?_
  refine x_if_ne 149 143 C dX11_write_140 rfl rfl hf (fun hf => ?_) (fun hf => ?_)
  · exact w_X11_write_149 h C N x m_states m_ra m_rb m_threes m_primes m_ones m_unit m_allParts m_allNorms m_allClasses m_odd m_boxWide m_boxHigh m_boxStep m_partingMany m_qa m_qb m_la m_lb m_sa m_sb m_ta m_tb m_listed m_tells m_wanted m_found m_bits m_power2 m_rings m_ringA m_ringB m_seedNow m_tape m_keptHas m_keptFirst m_keptSecond m_pa m_pb m_pNorm m_cubed m_isOpen m_signs m_often m_la0 m_lb0 R (k51) hk51 m_taped m_has m_first m_second v1 v2 v3 v4 v5 v6 v7 v9 (1 : Int32) _ _ _ X (lv_sub hl [1, 2, 3, 4, 5, 6, 7, 8, 9, 0] rfl) hf
  refine x_sipush 146 C dX11_write_143 (-1000 : Int32) kv_sipush_m1000 rfl ?_
  refine x_iload_n 147 C dX11_write_146 hl 4 rfl rfl ?_
  refine x_isub 148 C dX11_write_147 rfl ?_
  obtain rfl := Option.some.inj hf
  exact R _ _ _ _ X dX11_write_148
set_option maxHeartbeats 4000000 in
set_option maxRecDepth 100000 in
theorem w_X11_write_97 {E : KE} {A : Nat → Prop} {D : va_G} {T : KT} (h : Nat → Nat) (C : kx_C E cX11_write 16 (some .int) RX11 2 45 D T) (N : Nat) (x : Int32 × Int32 × (Nat → Int32) × (Nat → Int32) × (Nat → Int32)) (m_states : Int32) (m_ra m_rb : Int64) (m_threes m_primes m_ones m_unit : Int32) (m_allParts m_allNorms m_allClasses : Int64) (m_odd : Int32) (m_boxWide m_boxHigh m_boxStep : Int64) (m_partingMany : Int32) (m_qa m_qb m_la m_lb m_sa m_sb m_ta m_tb : Int64) (m_listed m_tells m_wanted m_found : Int32) (m_bits : Int64) (m_power2 m_rings m_ringA m_ringB m_seedNow : Int32) (m_tape m_keptHas m_keptFirst m_keptSecond m_pa m_pb m_pNorm m_cubed m_isOpen m_signs m_often m_la0 m_lb0 : Nat → Int32) (R : kx_RI E cX11_write D A (wM T h x.2.1 m_states m_ra m_rb m_threes m_primes m_ones m_unit m_allParts m_allNorms m_allClasses m_odd m_boxWide m_boxHigh m_boxStep m_partingMany m_qa m_qb m_la m_lb m_sa m_sb m_ta m_tb m_listed m_tells m_wanted m_found m_bits m_power2 m_rings m_ringA m_ringB m_seedNow m_tape x.2.2.1 m_keptHas x.2.2.2.1 x.2.2.2.2 m_keptFirst m_keptSecond m_pa m_pb m_pNorm m_cubed m_isOpen m_signs m_often m_la0 m_lb0) x.1) (k51 : Int32 → Int32 → Int32 → Int32 → Int32 → Int32 → Int32 → Int32 → Int32 → (Nat → Int32) → (Nat → Int32) → (Nat → Int32) → (Nat → Int32) → Option (Int32 × Int32 × (Nat → Int32) × (Nat → Int32) × (Nat → Int32))) (hk51 : ∀ (m_taped : Int32) (m_has m_first m_second : Nat → Int32) (v1 v2 v3 v4 v5 v6 v7 v8 : Int32) (H : Heap) (locs : List Loc) (ls : Array Slot), kx_H E D A H locs (wM T h m_taped m_states m_ra m_rb m_threes m_primes m_ones m_unit m_allParts m_allNorms m_allClasses m_odd m_boxWide m_boxHigh m_boxStep m_partingMany m_qa m_qb m_la m_lb m_sa m_sb m_ta m_tb m_listed m_tells m_wanted m_found m_bits m_power2 m_rings m_ringA m_ringB m_seedNow m_tape m_has m_keptHas m_first m_second m_keptFirst m_keptSecond m_pa m_pb m_pNorm m_cubed m_isOpen m_signs m_often m_la0 m_lb0) → lv_has ls 16 [(0, .ref (h 0)), (1, .int v1), (2, .int v2), (3, .int v3), (4, .int v4), (5, .int v5), (6, .int v6), (7, .int v7), (8, .int v8)] → k51 v1 v2 v3 v4 v5 v6 v7 v8 m_taped m_tape m_has m_first m_second = some x → kx_W E H locs 51 ls []) : ∀ (m_taped : Int32) (m_has m_first m_second : Nat → Int32) (v1 v2 v3 v4 v5 v6 v7 v9 s0 : Int32) (H : Heap) (locs : List Loc) (ls : Array Slot), kx_H E D A H locs (wM T h m_taped m_states m_ra m_rb m_threes m_primes m_ones m_unit m_allParts m_allNorms m_allClasses m_odd m_boxWide m_boxHigh m_boxStep m_partingMany m_qa m_qb m_la m_lb m_sa m_sb m_ta m_tb m_listed m_tells m_wanted m_found m_bits m_power2 m_rings m_ringA m_ringB m_seedNow m_tape m_has m_keptHas m_first m_second m_keptFirst m_keptSecond m_pa m_pb m_pNorm m_cubed m_isOpen m_signs m_often m_la0 m_lb0) → lv_has ls 16 [(0, .ref (h 0)), (1, .int v1), (2, .int v2), (3, .int v3), (4, .int v4), (5, .int v5), (6, .int v6), (7, .int v7), (9, .int v9)] → f_X11_write_97 N k51 v1 v2 v3 v4 v5 v6 v7 v9 s0 m_taped m_tape m_has m_first m_second = some x → kx_W E H locs 97 ls [.int s0] := by
  intro m_taped m_has m_first m_second v1 v2 v3 v4 v5 v6 v7 v9 s0 H locs ls X hl hf
  rw [f_X11_write_97] at hf
  refine x_istore 99 C dX11_write_97 [(10, .int s0), (0, .ref (h 0)), (1, .int v1), (2, .int v2), (3, .int v3), (4, .int v4), (5, .int v5), (6, .int v6), (7, .int v7), (9, .int v9)] hl rfl rfl rfl (fun ls hl => ?_)
  refine x_iload_n 100 C dX11_write_99 hl 4 rfl rfl ?_
  refine x_iload_n 101 C dX11_write_100 hl 3 rfl rfl ?_
  refine x_icmp_ge 130 104 C dX11_write_101 rfl rfl hf (fun hf => ?_) (fun hf => ?_)
  · refine x_iconst 131 C dX11_write_130 (0 : Int32) kv_iconst_0 rfl ?_
    refine x_istore 133 C dX11_write_131 [(11, .int (0 : Int32)), (10, .int s0), (0, .ref (h 0)), (1, .int v1), (2, .int v2), (3, .int v3), (4, .int v4), (5, .int v5), (6, .int v6), (7, .int v7), (9, .int v9)] hl rfl rfl rfl (fun ls hl => ?_)
    refine x_iload 135 C dX11_write_133 hl 0 rfl rfl ?_
    refine x_if_ne 149 138 C dX11_write_135 rfl rfl hf (fun hf => ?_) (fun hf => ?_)
    · exact w_X11_write_149 h C N x m_states m_ra m_rb m_threes m_primes m_ones m_unit m_allParts m_allNorms m_allClasses m_odd m_boxWide m_boxHigh m_boxStep m_partingMany m_qa m_qb m_la m_lb m_sa m_sb m_ta m_tb m_listed m_tells m_wanted m_found m_bits m_power2 m_rings m_ringA m_ringB m_seedNow m_tape m_keptHas m_keptFirst m_keptSecond m_pa m_pb m_pNorm m_cubed m_isOpen m_signs m_often m_la0 m_lb0 R (k51) hk51 m_taped m_has m_first m_second v1 v2 v3 v4 v5 v6 v7 v9 (0 : Int32) _ _ _ X (lv_sub hl [2, 3, 4, 5, 6, 7, 8, 9, 10, 0] rfl) hf
    refine x_iload 140 C dX11_write_138 hl 1 rfl rfl ?_
    refine x_if_ne 149 143 C dX11_write_140 rfl rfl hf (fun hf => ?_) (fun hf => ?_)
    · exact w_X11_write_149 h C N x m_states m_ra m_rb m_threes m_primes m_ones m_unit m_allParts m_allNorms m_allClasses m_odd m_boxWide m_boxHigh m_boxStep m_partingMany m_qa m_qb m_la m_lb m_sa m_sb m_ta m_tb m_listed m_tells m_wanted m_found m_bits m_power2 m_rings m_ringA m_ringB m_seedNow m_tape m_keptHas m_keptFirst m_keptSecond m_pa m_pb m_pNorm m_cubed m_isOpen m_signs m_often m_la0 m_lb0 R (k51) hk51 m_taped m_has m_first m_second v1 v2 v3 v4 v5 v6 v7 v9 (0 : Int32) _ _ _ X (lv_sub hl [2, 3, 4, 5, 6, 7, 8, 9, 10, 0] rfl) hf
    refine x_sipush 146 C dX11_write_143 (-1000 : Int32) kv_sipush_m1000 rfl ?_
    refine x_iload_n 147 C dX11_write_146 hl 5 rfl rfl ?_
    refine x_isub 148 C dX11_write_147 rfl ?_
    obtain rfl := Option.some.inj hf
    exact R _ _ _ _ X dX11_write_148
  refine x_aload_n 105 C dX11_write_104 hl 1 rfl rfl ?_
  refine x_get 108 C dX11_write_105 X kf_X11_7 0 rfl rfl rfl ?_
  refine x_iload_n 109 C dX11_write_108 hl 4 rfl rfl ?_
  refine x_bald 110 C dX11_write_109 X 1 rfl hf rfl (fun hf => ?_)
  refine x_bipush 112 C dX11_write_110 (43 : Int32) kv_bipush_43 rfl ?_
  refine x_icmp_eq 126 115 C dX11_write_112 rfl rfl hf (fun hf => ?_) (fun hf => ?_)
  · exact w_X11_write_126 h C N x m_states m_ra m_rb m_threes m_primes m_ones m_unit m_allParts m_allNorms m_allClasses m_odd m_boxWide m_boxHigh m_boxStep m_partingMany m_qa m_qb m_la m_lb m_sa m_sb m_ta m_tb m_listed m_tells m_wanted m_found m_bits m_power2 m_rings m_ringA m_ringB m_seedNow m_tape m_keptHas m_keptFirst m_keptSecond m_pa m_pb m_pNorm m_cubed m_isOpen m_signs m_often m_la0 m_lb0 R (k51) hk51 m_taped m_has m_first m_second v1 v2 v3 v4 v5 v6 v7 v9 s0 _ _ _ X (lv_sub hl [1, 2, 3, 4, 5, 6, 7, 8, 9, 0] rfl) hf
  refine x_aload_n 116 C dX11_write_115 hl 1 rfl rfl ?_
  refine x_get 119 C dX11_write_116 X kf_X11_7 0 rfl rfl rfl ?_
  refine x_iload_n 120 C dX11_write_119 hl 4 rfl rfl ?_
  refine x_bald 121 C dX11_write_120 X 1 rfl hf rfl (fun hf => ?_)
  refine x_bipush 123 C dX11_write_121 (45 : Int32) kv_bipush_45 rfl ?_
  refine x_icmp_ne 130 126 C dX11_write_123 rfl rfl hf (fun hf => ?_) (fun hf => ?_)
  · refine x_iconst 131 C dX11_write_130 (0 : Int32) kv_iconst_0 rfl ?_
    refine x_istore 133 C dX11_write_131 [(11, .int (0 : Int32)), (10, .int s0), (0, .ref (h 0)), (1, .int v1), (2, .int v2), (3, .int v3), (4, .int v4), (5, .int v5), (6, .int v6), (7, .int v7), (9, .int v9)] hl rfl rfl rfl (fun ls hl => ?_)
    refine x_iload 135 C dX11_write_133 hl 0 rfl rfl ?_
    refine x_if_ne 149 138 C dX11_write_135 rfl rfl hf (fun hf => ?_) (fun hf => ?_)
    · exact w_X11_write_149 h C N x m_states m_ra m_rb m_threes m_primes m_ones m_unit m_allParts m_allNorms m_allClasses m_odd m_boxWide m_boxHigh m_boxStep m_partingMany m_qa m_qb m_la m_lb m_sa m_sb m_ta m_tb m_listed m_tells m_wanted m_found m_bits m_power2 m_rings m_ringA m_ringB m_seedNow m_tape m_keptHas m_keptFirst m_keptSecond m_pa m_pb m_pNorm m_cubed m_isOpen m_signs m_often m_la0 m_lb0 R (k51) hk51 m_taped m_has m_first m_second v1 v2 v3 v4 v5 v6 v7 v9 (0 : Int32) _ _ _ X (lv_sub hl [2, 3, 4, 5, 6, 7, 8, 9, 10, 0] rfl) hf
    refine x_iload 140 C dX11_write_138 hl 1 rfl rfl ?_
    refine x_if_ne 149 143 C dX11_write_140 rfl rfl hf (fun hf => ?_) (fun hf => ?_)
    · exact w_X11_write_149 h C N x m_states m_ra m_rb m_threes m_primes m_ones m_unit m_allParts m_allNorms m_allClasses m_odd m_boxWide m_boxHigh m_boxStep m_partingMany m_qa m_qb m_la m_lb m_sa m_sb m_ta m_tb m_listed m_tells m_wanted m_found m_bits m_power2 m_rings m_ringA m_ringB m_seedNow m_tape m_keptHas m_keptFirst m_keptSecond m_pa m_pb m_pNorm m_cubed m_isOpen m_signs m_often m_la0 m_lb0 R (k51) hk51 m_taped m_has m_first m_second v1 v2 v3 v4 v5 v6 v7 v9 (0 : Int32) _ _ _ X (lv_sub hl [2, 3, 4, 5, 6, 7, 8, 9, 10, 0] rfl) hf
    refine x_sipush 146 C dX11_write_143 (-1000 : Int32) kv_sipush_m1000 rfl ?_
    refine x_iload_n 147 C dX11_write_146 hl 5 rfl rfl ?_
    refine x_isub 148 C dX11_write_147 rfl ?_
    obtain rfl := Option.some.inj hf
    exact R _ _ _ _ X dX11_write_148
  exact w_X11_write_126 h C N x m_states m_ra m_rb m_threes m_primes m_ones m_unit m_allParts m_allNorms m_allClasses m_odd m_boxWide m_boxHigh m_boxStep m_partingMany m_qa m_qb m_la m_lb m_sa m_sb m_ta m_tb m_listed m_tells m_wanted m_found m_bits m_power2 m_rings m_ringA m_ringB m_seedNow m_tape m_keptHas m_keptFirst m_keptSecond m_pa m_pb m_pNorm m_cubed m_isOpen m_signs m_often m_la0 m_lb0 R (k51) hk51 m_taped m_has m_first m_second v1 v2 v3 v4 v5 v6 v7 v9 s0 _ _ _ X (lv_sub hl [1, 2, 3, 4, 5, 6, 7, 8, 9, 0] rfl) hf
set_option maxHeartbeats 4000000 in
set_option maxRecDepth 100000 in
theorem w_X11_write_79 {E : KE} {A : Nat → Prop} {D : va_G} {T : KT} (h : Nat → Nat) (C : kx_C E cX11_write 16 (some .int) RX11 2 45 D T) (N : Nat) (x : Int32 × Int32 × (Nat → Int32) × (Nat → Int32) × (Nat → Int32)) (m_states : Int32) (m_ra m_rb : Int64) (m_threes m_primes m_ones m_unit : Int32) (m_allParts m_allNorms m_allClasses : Int64) (m_odd : Int32) (m_boxWide m_boxHigh m_boxStep : Int64) (m_partingMany : Int32) (m_qa m_qb m_la m_lb m_sa m_sb m_ta m_tb : Int64) (m_listed m_tells m_wanted m_found : Int32) (m_bits : Int64) (m_power2 m_rings m_ringA m_ringB m_seedNow : Int32) (m_tape m_keptHas m_keptFirst m_keptSecond m_pa m_pb m_pNorm m_cubed m_isOpen m_signs m_often m_la0 m_lb0 : Nat → Int32) (R : kx_RI E cX11_write D A (wM T h x.2.1 m_states m_ra m_rb m_threes m_primes m_ones m_unit m_allParts m_allNorms m_allClasses m_odd m_boxWide m_boxHigh m_boxStep m_partingMany m_qa m_qb m_la m_lb m_sa m_sb m_ta m_tb m_listed m_tells m_wanted m_found m_bits m_power2 m_rings m_ringA m_ringB m_seedNow m_tape x.2.2.1 m_keptHas x.2.2.2.1 x.2.2.2.2 m_keptFirst m_keptSecond m_pa m_pb m_pNorm m_cubed m_isOpen m_signs m_often m_la0 m_lb0) x.1) (k51 : Int32 → Int32 → Int32 → Int32 → Int32 → Int32 → Int32 → Int32 → Int32 → (Nat → Int32) → (Nat → Int32) → (Nat → Int32) → (Nat → Int32) → Option (Int32 × Int32 × (Nat → Int32) × (Nat → Int32) × (Nat → Int32))) (hk51 : ∀ (m_taped : Int32) (m_has m_first m_second : Nat → Int32) (v1 v2 v3 v4 v5 v6 v7 v8 : Int32) (H : Heap) (locs : List Loc) (ls : Array Slot), kx_H E D A H locs (wM T h m_taped m_states m_ra m_rb m_threes m_primes m_ones m_unit m_allParts m_allNorms m_allClasses m_odd m_boxWide m_boxHigh m_boxStep m_partingMany m_qa m_qb m_la m_lb m_sa m_sb m_ta m_tb m_listed m_tells m_wanted m_found m_bits m_power2 m_rings m_ringA m_ringB m_seedNow m_tape m_has m_keptHas m_first m_second m_keptFirst m_keptSecond m_pa m_pb m_pNorm m_cubed m_isOpen m_signs m_often m_la0 m_lb0) → lv_has ls 16 [(0, .ref (h 0)), (1, .int v1), (2, .int v2), (3, .int v3), (4, .int v4), (5, .int v5), (6, .int v6), (7, .int v7), (8, .int v8)] → k51 v1 v2 v3 v4 v5 v6 v7 v8 m_taped m_tape m_has m_first m_second = some x → kx_W E H locs 51 ls []) : ∀ (m_taped : Int32) (m_has m_first m_second : Nat → Int32) (v1 v2 v3 v4 v5 v6 v7 : Int32) (H : Heap) (locs : List Loc) (ls : Array Slot), kx_H E D A H locs (wM T h m_taped m_states m_ra m_rb m_threes m_primes m_ones m_unit m_allParts m_allNorms m_allClasses m_odd m_boxWide m_boxHigh m_boxStep m_partingMany m_qa m_qb m_la m_lb m_sa m_sb m_ta m_tb m_listed m_tells m_wanted m_found m_bits m_power2 m_rings m_ringA m_ringB m_seedNow m_tape m_has m_keptHas m_first m_second m_keptFirst m_keptSecond m_pa m_pb m_pNorm m_cubed m_isOpen m_signs m_often m_la0 m_lb0) → lv_has ls 16 [(0, .ref (h 0)), (1, .int v1), (2, .int v2), (3, .int v3), (4, .int v4), (5, .int v5), (6, .int v6), (7, .int v7)] → f_X11_write_79 N k51 v1 v2 v3 v4 v5 v6 v7 m_taped m_tape m_has m_first m_second = some x → kx_W E H locs 79 ls [] := by
  intro m_taped m_has m_first m_second v1 v2 v3 v4 v5 v6 v7 H locs ls X hl hf
  rw [f_X11_write_79] at hf
  refine x_iload_n 80 C dX11_write_79 hl 3 rfl rfl ?_
  refine x_istore 82 C dX11_write_80 [(9, .int v3), (0, .ref (h 0)), (1, .int v1), (2, .int v2), (3, .int v3), (4, .int v4), (5, .int v5), (6, .int v6), (7, .int v7)] hl rfl rfl rfl (fun ls hl => ?_)
  refine x_iload 84 C dX11_write_82 hl 7 rfl rfl ?_
  refine x_if_ne 96 87 C dX11_write_84 rfl rfl hf (fun hf => ?_) (fun hf => ?_)
  · refine x_iconst 97 C dX11_write_96 (0 : Int32) kv_iconst_0 rfl ?_
    exact w_X11_write_97 h C N x m_states m_ra m_rb m_threes m_primes m_ones m_unit m_allParts m_allNorms m_allClasses m_odd m_boxWide m_boxHigh m_boxStep m_partingMany m_qa m_qb m_la m_lb m_sa m_sb m_ta m_tb m_listed m_tells m_wanted m_found m_bits m_power2 m_rings m_ringA m_ringB m_seedNow m_tape m_keptHas m_keptFirst m_keptSecond m_pa m_pb m_pNorm m_cubed m_isOpen m_signs m_often m_la0 m_lb0 R (k51) hk51 m_taped m_has m_first m_second v1 v2 v3 v4 v5 v6 v7 v3 (0 : Int32) _ _ _ X (lv_sub hl [1, 2, 3, 4, 5, 6, 7, 8, 0] rfl) hf
  refine x_iload 89 C dX11_write_87 hl 8 rfl rfl ?_
  refine x_if_ne 96 92 C dX11_write_89 rfl rfl hf (fun hf => ?_) (fun hf => ?_)
  · refine x_iconst 97 C dX11_write_96 (0 : Int32) kv_iconst_0 rfl ?_
    exact w_X11_write_97 h C N x m_states m_ra m_rb m_threes m_primes m_ones m_unit m_allParts m_allNorms m_allClasses m_odd m_boxWide m_boxHigh m_boxStep m_partingMany m_qa m_qb m_la m_lb m_sa m_sb m_ta m_tb m_listed m_tells m_wanted m_found m_bits m_power2 m_rings m_ringA m_ringB m_seedNow m_tape m_keptHas m_keptFirst m_keptSecond m_pa m_pb m_pNorm m_cubed m_isOpen m_signs m_often m_la0 m_lb0 R (k51) hk51 m_taped m_has m_first m_second v1 v2 v3 v4 v5 v6 v7 v3 (0 : Int32) _ _ _ X (lv_sub hl [1, 2, 3, 4, 5, 6, 7, 8, 0] rfl) hf
  refine x_iconst 93 C dX11_write_92 (1 : Int32) kv_iconst_1 rfl ?_
  refine x_goto 97 C dX11_write_93 rfl ?_
  exact w_X11_write_97 h C N x m_states m_ra m_rb m_threes m_primes m_ones m_unit m_allParts m_allNorms m_allClasses m_odd m_boxWide m_boxHigh m_boxStep m_partingMany m_qa m_qb m_la m_lb m_sa m_sb m_ta m_tb m_listed m_tells m_wanted m_found m_bits m_power2 m_rings m_ringA m_ringB m_seedNow m_tape m_keptHas m_keptFirst m_keptSecond m_pa m_pb m_pNorm m_cubed m_isOpen m_signs m_often m_la0 m_lb0 R (k51) hk51 m_taped m_has m_first m_second v1 v2 v3 v4 v5 v6 v7 v3 (1 : Int32) _ _ _ X (lv_sub hl [1, 2, 3, 4, 5, 6, 7, 8, 0] rfl) hf
set_option maxHeartbeats 4000000 in
set_option maxRecDepth 100000 in
theorem w_X11_write_56 {E : KE} {A : Nat → Prop} {D : va_G} {T : KT} (h : Nat → Nat) (C : kx_C E cX11_write 16 (some .int) RX11 2 45 D T) (N : Nat) (x : Int32 × Int32 × (Nat → Int32) × (Nat → Int32) × (Nat → Int32)) (m_states : Int32) (m_ra m_rb : Int64) (m_threes m_primes m_ones m_unit : Int32) (m_allParts m_allNorms m_allClasses : Int64) (m_odd : Int32) (m_boxWide m_boxHigh m_boxStep : Int64) (m_partingMany : Int32) (m_qa m_qb m_la m_lb m_sa m_sb m_ta m_tb : Int64) (m_listed m_tells m_wanted m_found : Int32) (m_bits : Int64) (m_power2 m_rings m_ringA m_ringB m_seedNow : Int32) (m_tape m_keptHas m_keptFirst m_keptSecond m_pa m_pb m_pNorm m_cubed m_isOpen m_signs m_often m_la0 m_lb0 : Nat → Int32) (R : kx_RI E cX11_write D A (wM T h x.2.1 m_states m_ra m_rb m_threes m_primes m_ones m_unit m_allParts m_allNorms m_allClasses m_odd m_boxWide m_boxHigh m_boxStep m_partingMany m_qa m_qb m_la m_lb m_sa m_sb m_ta m_tb m_listed m_tells m_wanted m_found m_bits m_power2 m_rings m_ringA m_ringB m_seedNow m_tape x.2.2.1 m_keptHas x.2.2.2.1 x.2.2.2.2 m_keptFirst m_keptSecond m_pa m_pb m_pNorm m_cubed m_isOpen m_signs m_often m_la0 m_lb0) x.1) (k51 : Int32 → Int32 → Int32 → Int32 → Int32 → Int32 → Int32 → Int32 → Int32 → (Nat → Int32) → (Nat → Int32) → (Nat → Int32) → (Nat → Int32) → Option (Int32 × Int32 × (Nat → Int32) × (Nat → Int32) × (Nat → Int32))) (hk51 : ∀ (m_taped : Int32) (m_has m_first m_second : Nat → Int32) (v1 v2 v3 v4 v5 v6 v7 v8 : Int32) (H : Heap) (locs : List Loc) (ls : Array Slot), kx_H E D A H locs (wM T h m_taped m_states m_ra m_rb m_threes m_primes m_ones m_unit m_allParts m_allNorms m_allClasses m_odd m_boxWide m_boxHigh m_boxStep m_partingMany m_qa m_qb m_la m_lb m_sa m_sb m_ta m_tb m_listed m_tells m_wanted m_found m_bits m_power2 m_rings m_ringA m_ringB m_seedNow m_tape m_has m_keptHas m_first m_second m_keptFirst m_keptSecond m_pa m_pb m_pNorm m_cubed m_isOpen m_signs m_often m_la0 m_lb0) → lv_has ls 16 [(0, .ref (h 0)), (1, .int v1), (2, .int v2), (3, .int v3), (4, .int v4), (5, .int v5), (6, .int v6), (7, .int v7), (8, .int v8)] → k51 v1 v2 v3 v4 v5 v6 v7 v8 m_taped m_tape m_has m_first m_second = some x → kx_W E H locs 51 ls []) : ∀ (k : Nat), ∀ (m_taped : Int32) (m_has m_first m_second : Nat → Int32) (v1 v2 v3 v4 v5 v6 v7 : Int32) (H : Heap) (locs : List Loc) (ls : Array Slot), kx_H E D A H locs (wM T h m_taped m_states m_ra m_rb m_threes m_primes m_ones m_unit m_allParts m_allNorms m_allClasses m_odd m_boxWide m_boxHigh m_boxStep m_partingMany m_qa m_qb m_la m_lb m_sa m_sb m_ta m_tb m_listed m_tells m_wanted m_found m_bits m_power2 m_rings m_ringA m_ringB m_seedNow m_tape m_has m_keptHas m_first m_second m_keptFirst m_keptSecond m_pa m_pb m_pNorm m_cubed m_isOpen m_signs m_often m_la0 m_lb0) → lv_has ls 16 [(0, .ref (h 0)), (1, .int v1), (2, .int v2), (3, .int v3), (4, .int v4), (5, .int v5), (6, .int v6), (7, .int v7)] → f_X11_write_56 N k51 k v1 v2 v3 v4 v5 v6 v7 m_taped m_tape m_has m_first m_second = some x → kx_W E H locs 56 ls [] := by
  intro k
  induction k with
  | zero =>
    intro m_taped m_has m_first m_second v1 v2 v3 v4 v5 v6 v7 H locs ls X hl hf
    cases (show (none : Option (Int32 × Int32 × (Nat → Int32) × (Nat → Int32) × (Nat → Int32))) = some x from hf)
  | succ k ih =>
    intro m_taped m_has m_first m_second v1 v2 v3 v4 v5 v6 v7 H locs ls X hl hf
    rw [f_X11_write_56] at hf
    refine x_iload_n 57 C dX11_write_56 hl 3 rfl rfl ?_
    refine x_iload_n 58 C dX11_write_57 hl 2 rfl rfl ?_
    refine x_icmp_ge 79 61 C dX11_write_58 rfl rfl hf (fun hf => ?_) (fun hf => ?_)
    · exact w_X11_write_79 h C N x m_states m_ra m_rb m_threes m_primes m_ones m_unit m_allParts m_allNorms m_allClasses m_odd m_boxWide m_boxHigh m_boxStep m_partingMany m_qa m_qb m_la m_lb m_sa m_sb m_ta m_tb m_listed m_tells m_wanted m_found m_bits m_power2 m_rings m_ringA m_ringB m_seedNow m_tape m_keptHas m_keptFirst m_keptSecond m_pa m_pb m_pNorm m_cubed m_isOpen m_signs m_often m_la0 m_lb0 R (k51) hk51 m_taped m_has m_first m_second v1 v2 v3 v4 v5 v6 v7 _ _ _ X (lv_sub hl [0, 1, 2, 3, 4, 5, 6, 7] rfl) hf
    refine x_aload_n 62 C dX11_write_61 hl 0 rfl rfl ?_
    refine x_get 65 C dX11_write_62 X kf_X11_7 0 rfl rfl rfl ?_
    refine x_iload_n 66 C dX11_write_65 hl 3 rfl rfl ?_
    refine x_bald 67 C dX11_write_66 X 1 rfl hf rfl (fun hf => ?_)
    refine x_bipush 69 C dX11_write_67 (32 : Int32) kv_bipush_32 rfl ?_
    refine x_icmp_ne 79 72 C dX11_write_69 rfl rfl hf (fun hf => ?_) (fun hf => ?_)
    · exact w_X11_write_79 h C N x m_states m_ra m_rb m_threes m_primes m_ones m_unit m_allParts m_allNorms m_allClasses m_odd m_boxWide m_boxHigh m_boxStep m_partingMany m_qa m_qb m_la m_lb m_sa m_sb m_ta m_tb m_listed m_tells m_wanted m_found m_bits m_power2 m_rings m_ringA m_ringB m_seedNow m_tape m_keptHas m_keptFirst m_keptSecond m_pa m_pb m_pNorm m_cubed m_isOpen m_signs m_often m_la0 m_lb0 R (k51) hk51 m_taped m_has m_first m_second v1 v2 v3 v4 v5 v6 v7 _ _ _ X (lv_sub hl [0, 1, 2, 3, 4, 5, 6, 7] rfl) hf
    refine x_iload_n 73 C dX11_write_72 hl 3 rfl rfl ?_
    refine x_iconst 74 C dX11_write_73 (1 : Int32) kv_iconst_1 rfl ?_
    refine x_iadd 75 C dX11_write_74 rfl ?_
    refine x_istore_n 76 C dX11_write_75 [(3, .int (v3 + (1 : Int32))), (0, .ref (h 0)), (1, .int v1), (2, .int v2), (4, .int v4), (5, .int v5), (6, .int v6), (7, .int v7)] hl rfl rfl rfl (fun ls hl => ?_)
    refine x_goto 56 C dX11_write_76 rfl ?_
    exact ih m_taped m_has m_first m_second v1 v2 (v3 + (1 : Int32)) v4 v5 v6 v7 _ _ _ X (lv_sub hl [1, 2, 3, 0, 4, 5, 6, 7] rfl) hf
set_option maxHeartbeats 4000000 in
set_option maxRecDepth 100000 in
theorem w_X11_write_51 {E : KE} {A : Nat → Prop} {D : va_G} {T : KT} (h : Nat → Nat) (C : kx_C E cX11_write 16 (some .int) RX11 2 45 D T) (N : Nat) (x : Int32 × Int32 × (Nat → Int32) × (Nat → Int32) × (Nat → Int32)) (m_states : Int32) (m_ra m_rb : Int64) (m_threes m_primes m_ones m_unit : Int32) (m_allParts m_allNorms m_allClasses : Int64) (m_odd : Int32) (m_boxWide m_boxHigh m_boxStep : Int64) (m_partingMany : Int32) (m_qa m_qb m_la m_lb m_sa m_sb m_ta m_tb : Int64) (m_listed m_tells m_wanted m_found : Int32) (m_bits : Int64) (m_power2 m_rings m_ringA m_ringB m_seedNow : Int32) (m_tape m_keptHas m_keptFirst m_keptSecond m_pa m_pb m_pNorm m_cubed m_isOpen m_signs m_often m_la0 m_lb0 : Nat → Int32) (R : kx_RI E cX11_write D A (wM T h x.2.1 m_states m_ra m_rb m_threes m_primes m_ones m_unit m_allParts m_allNorms m_allClasses m_odd m_boxWide m_boxHigh m_boxStep m_partingMany m_qa m_qb m_la m_lb m_sa m_sb m_ta m_tb m_listed m_tells m_wanted m_found m_bits m_power2 m_rings m_ringA m_ringB m_seedNow m_tape x.2.2.1 m_keptHas x.2.2.2.1 x.2.2.2.2 m_keptFirst m_keptSecond m_pa m_pb m_pNorm m_cubed m_isOpen m_signs m_often m_la0 m_lb0) x.1) : ∀ (k : Nat), ∀ (m_taped : Int32) (m_has m_first m_second : Nat → Int32) (v1 v2 v3 v4 v5 v6 v7 v8 : Int32) (H : Heap) (locs : List Loc) (ls : Array Slot), kx_H E D A H locs (wM T h m_taped m_states m_ra m_rb m_threes m_primes m_ones m_unit m_allParts m_allNorms m_allClasses m_odd m_boxWide m_boxHigh m_boxStep m_partingMany m_qa m_qb m_la m_lb m_sa m_sb m_ta m_tb m_listed m_tells m_wanted m_found m_bits m_power2 m_rings m_ringA m_ringB m_seedNow m_tape m_has m_keptHas m_first m_second m_keptFirst m_keptSecond m_pa m_pb m_pNorm m_cubed m_isOpen m_signs m_often m_la0 m_lb0) → lv_has ls 16 [(0, .ref (h 0)), (1, .int v1), (2, .int v2), (3, .int v3), (4, .int v4), (5, .int v5), (6, .int v6), (7, .int v7), (8, .int v8)] → f_X11_write_51 N k v1 v2 v3 v4 v5 v6 v7 v8 m_taped m_tape m_has m_first m_second = some x → kx_W E H locs 51 ls [] := by
  intro k
  induction k with
  | zero =>
    intro m_taped m_has m_first m_second v1 v2 v3 v4 v5 v6 v7 v8 H locs ls X hl hf
    cases (show (none : Option (Int32 × Int32 × (Nat → Int32) × (Nat → Int32) × (Nat → Int32))) = some x from hf)
  | succ k ih =>
    intro m_taped m_has m_first m_second v1 v2 v3 v4 v5 v6 v7 v8 H locs ls X hl hf
    rw [f_X11_write_51] at hf
    refine x_iload 53 C dX11_write_51 hl 8 rfl rfl ?_
    refine x_if_eq 449 56 C dX11_write_53 rfl rfl hf (fun hf => ?_) (fun hf => ?_)
    · refine x_aload_n 450 C dX11_write_449 hl 0 rfl rfl ?_
      refine x_iload_n 451 C dX11_write_450 hl 1 rfl rfl ?_
      refine x_iload 453 C dX11_write_451 hl 4 rfl rfl ?_
      refine x_i2l 454 C dX11_write_453 rfl ?_
      refine x_iload 456 C dX11_write_454 hl 5 rfl rfl ?_
      refine x_i2l 457 C dX11_write_456 rfl ?_
      obtain ⟨y457, hy457, hf⟩ := kx_bind hf
      refine x_callVv0 460 C dX11_write_457 X hl kl_X11_93 (c_X11_puts E.2.1 D T h v1 (v4).toInt64 (v5).toInt64 m_taped m_states m_ra m_rb m_threes m_primes m_ones m_unit m_allParts m_allNorms m_allClasses m_odd m_boxWide m_boxHigh m_boxStep m_partingMany m_qa m_qb m_la m_lb m_sa m_sb m_ta m_tb m_listed m_tells m_wanted m_found m_bits m_power2 m_rings m_ringA m_ringB m_seedNow m_tape m_has m_keptHas m_first m_second m_keptFirst m_keptSecond m_pa m_pb m_pNorm m_cubed m_isOpen m_signs m_often m_la0 m_lb0 y457 hy457) rfl rfl [] rfl rfl rfl rfl rfl rfl (fun H locs X => ?_)
      refine x_iconst 461 C dX11_write_460 (0 : Int32) kv_iconst_0 rfl ?_
      obtain rfl := Option.some.inj hf
      exact R _ _ _ _ X dX11_write_461
    exact w_X11_write_56 h C N x m_states m_ra m_rb m_threes m_primes m_ones m_unit m_allParts m_allNorms m_allClasses m_odd m_boxWide m_boxHigh m_boxStep m_partingMany m_qa m_qb m_la m_lb m_sa m_sb m_ta m_tb m_listed m_tells m_wanted m_found m_bits m_power2 m_rings m_ringA m_ringB m_seedNow m_tape m_keptHas m_keptFirst m_keptSecond m_pa m_pb m_pNorm m_cubed m_isOpen m_signs m_often m_la0 m_lb0 R (f_X11_write_51 N k) ih N m_taped m_has m_first m_second v1 v2 v3 v4 v5 v6 v7 _ _ _ X (lv_sub hl [0, 1, 2, 3, 4, 5, 6, 7] rfl) hf
set_option maxHeartbeats 4000000 in
set_option maxRecDepth 100000 in
theorem c_X11_write (l : Launch) (D : va_G) (T : KT) (h : Nat → Nat) (N : Nat) (v1 v2 : Int32) (m_taped m_states : Int32) (m_ra m_rb : Int64) (m_threes m_primes m_ones m_unit : Int32) (m_allParts m_allNorms m_allClasses : Int64) (m_odd : Int32) (m_boxWide m_boxHigh m_boxStep : Int64) (m_partingMany : Int32) (m_qa m_qb m_la m_lb m_sa m_sb m_ta m_tb : Int64) (m_listed m_tells m_wanted m_found : Int32) (m_bits : Int64) (m_power2 m_rings m_ringA m_ringB m_seedNow : Int32) (m_tape m_has m_keptHas m_first m_second m_keptFirst m_keptSecond m_pa m_pb m_pNorm m_cubed m_isOpen m_signs m_often m_la0 m_lb0 : Nat → Int32) (x : Int32 × Int32 × (Nat → Int32) × (Nat → Int32) × (Nat → Int32)) (hf : f_X11_write N v1 v2 m_taped m_tape m_has m_first m_second = some x) : kx_MI l yX11_write cX11_write 16 (some .int) 2 45 D T [.ref (h 0), .int v1, .int v2] (wM T h m_taped m_states m_ra m_rb m_threes m_primes m_ones m_unit m_allParts m_allNorms m_allClasses m_odd m_boxWide m_boxHigh m_boxStep m_partingMany m_qa m_qb m_la m_lb m_sa m_sb m_ta m_tb m_listed m_tells m_wanted m_found m_bits m_power2 m_rings m_ringA m_ringB m_seedNow m_tape m_has m_keptHas m_first m_second m_keptFirst m_keptSecond m_pa m_pb m_pNorm m_cubed m_isOpen m_signs m_often m_la0 m_lb0) (wM T h x.2.1 m_states m_ra m_rb m_threes m_primes m_ones m_unit m_allParts m_allNorms m_allClasses m_odd m_boxWide m_boxHigh m_boxStep m_partingMany m_qa m_qb m_la m_lb m_sa m_sb m_ta m_tb m_listed m_tells m_wanted m_found m_bits m_power2 m_rings m_ringA m_ringB m_seedNow m_tape x.2.2.1 m_keptHas x.2.2.2.1 x.2.2.2.2 m_keptFirst m_keptSecond m_pa m_pb m_pNorm m_cubed m_isOpen m_signs m_often m_la0 m_lb0) x.1 := by
  refine kx_ofMI RX11 rfl (plainFor_of_name (x := yX11_write) kpn_X11) rfl ?_
  intro E A H ls _ C X R hl
  have hl : lv_has ls 16 [(0, .ref (h 0)), (1, .int v1), (2, .int v2)] := hl
  rw [f_X11_write] at hf
  refine x_iload_n 1 C dX11_write_0 hl 1 rfl rfl ?_
  obtain ⟨y1, hy1, hf⟩ := kx_bind hf
  refine x_callSi 4 C dX11_write_1 X hl kl_X11_85 (c_X11_isDrawer E.2.1 D T  v1  y1 hy1) [] rfl rfl rfl rfl rfl cb_7 rfl (fun H locs X => ?_)
  refine x_if_eq 27 7 C dX11_write_4 rfl rfl hf (fun hf => ?_) (fun hf => ?_)
  · refine x_iconst 28 C dX11_write_27 (-1 : Int32) kv_iconst_m1 rfl ?_
    obtain rfl := Option.some.inj hf
    exact R _ _ _ _ X dX11_write_28
  refine x_iload_n 8 C dX11_write_7 hl 2 rfl rfl ?_
  refine x_i2l 9 C dX11_write_8 rfl ?_
  refine x_lconst 10 C dX11_write_9 (1 : Int64) kv_lconst_1 rfl ?_
  refine x_ldc2_w 13 C dX11_write_10 (40 : Int64) kc_X11_97 rfl ?_
  obtain ⟨y13, hy13, hf⟩ := kx_bind hf
  refine x_callSi 16 C dX11_write_13 X hl kl_X11_77 (c_X11_in E.2.1 D T  (v2).toInt64 (1 : Int64) (40 : Int64)  y13 hy13) [] rfl rfl rfl rfl rfl cb_7 rfl (fun H locs X => ?_)
  refine x_if_eq 27 19 C dX11_write_16 rfl rfl hf (fun hf => ?_) (fun hf => ?_)
  · refine x_iconst 28 C dX11_write_27 (-1 : Int32) kv_iconst_m1 rfl ?_
    obtain rfl := Option.some.inj hf
    exact R _ _ _ _ X dX11_write_28
  refine x_iload_n 20 C dX11_write_19 hl 2 rfl rfl ?_
  refine x_aload_n 21 C dX11_write_20 hl 0 rfl rfl ?_
  refine x_get 24 C dX11_write_21 X kf_X11_67 0 rfl rfl rfl ?_
  refine x_icmp_le 29 27 C dX11_write_24 rfl rfl hf (fun hf => ?_) (fun hf => ?_)
  · refine x_aload_n 30 C dX11_write_29 hl 0 rfl rfl ?_
    refine x_iconst 31 C dX11_write_30 (0 : Int32) kv_iconst_0 rfl ?_
    refine x_put 34 C dX11_write_31 X kp_X11_67 0 rfl rfl rfl rfl (wM T h (0 : Int32) m_states m_ra m_rb m_threes m_primes m_ones m_unit m_allParts m_allNorms m_allClasses m_odd m_boxWide m_boxHigh m_boxStep m_partingMany m_qa m_qb m_la m_lb m_sa m_sb m_ta m_tb m_listed m_tells m_wanted m_found m_bits m_power2 m_rings m_ringA m_ringB m_seedNow m_tape m_has m_keptHas m_first m_second m_keptFirst m_keptSecond m_pa m_pb m_pNorm m_cubed m_isOpen m_signs m_often m_la0 m_lb0) rfl rfl (fun H locs X => ?_)
    refine x_iconst 35 C dX11_write_34 (0 : Int32) kv_iconst_0 rfl ?_
    refine x_istore_n 36 C dX11_write_35 [(3, .int (0 : Int32)), (0, .ref (h 0)), (1, .int v1), (2, .int v2)] hl rfl rfl rfl (fun ls hl => ?_)
    refine x_iconst 37 C dX11_write_36 (0 : Int32) kv_iconst_0 rfl ?_
    refine x_istore 39 C dX11_write_37 [(4, .int (0 : Int32)), (3, .int (0 : Int32)), (0, .ref (h 0)), (1, .int v1), (2, .int v2)] hl rfl rfl rfl (fun ls hl => ?_)
    refine x_iconst 40 C dX11_write_39 (0 : Int32) kv_iconst_0 rfl ?_
    refine x_istore 42 C dX11_write_40 [(5, .int (0 : Int32)), (4, .int (0 : Int32)), (3, .int (0 : Int32)), (0, .ref (h 0)), (1, .int v1), (2, .int v2)] hl rfl rfl rfl (fun ls hl => ?_)
    refine x_iconst 43 C dX11_write_42 (0 : Int32) kv_iconst_0 rfl ?_
    refine x_istore 45 C dX11_write_43 [(6, .int (0 : Int32)), (5, .int (0 : Int32)), (4, .int (0 : Int32)), (3, .int (0 : Int32)), (0, .ref (h 0)), (1, .int v1), (2, .int v2)] hl rfl rfl rfl (fun ls hl => ?_)
    refine x_iconst 46 C dX11_write_45 (0 : Int32) kv_iconst_0 rfl ?_
    refine x_istore 48 C dX11_write_46 [(7, .int (0 : Int32)), (6, .int (0 : Int32)), (5, .int (0 : Int32)), (4, .int (0 : Int32)), (3, .int (0 : Int32)), (0, .ref (h 0)), (1, .int v1), (2, .int v2)] hl rfl rfl rfl (fun ls hl => ?_)
    refine x_iconst 49 C dX11_write_48 (1 : Int32) kv_iconst_1 rfl ?_
    refine x_istore 51 C dX11_write_49 [(8, .int (1 : Int32)), (7, .int (0 : Int32)), (6, .int (0 : Int32)), (5, .int (0 : Int32)), (4, .int (0 : Int32)), (3, .int (0 : Int32)), (0, .ref (h 0)), (1, .int v1), (2, .int v2)] hl rfl rfl rfl (fun ls hl => ?_)
    exact w_X11_write_51 h C N x m_states m_ra m_rb m_threes m_primes m_ones m_unit m_allParts m_allNorms m_allClasses m_odd m_boxWide m_boxHigh m_boxStep m_partingMany m_qa m_qb m_la m_lb m_sa m_sb m_ta m_tb m_listed m_tells m_wanted m_found m_bits m_power2 m_rings m_ringA m_ringB m_seedNow m_tape m_keptHas m_keptFirst m_keptSecond m_pa m_pb m_pNorm m_cubed m_isOpen m_signs m_often m_la0 m_lb0 R  N (0 : Int32) m_has m_first m_second v1 v2 (0 : Int32) (0 : Int32) (0 : Int32) (0 : Int32) (0 : Int32) (1 : Int32) _ _ _ X (lv_sub hl [6, 7, 8, 5, 4, 3, 2, 1, 0] rfl) hf
  refine x_iconst 28 C dX11_write_27 (-1 : Int32) kv_iconst_m1 rfl ?_
  obtain rfl := Option.some.inj hf
  exact R _ _ _ _ X dX11_write_28
