set_option maxHeartbeats 4000000 in
set_option maxRecDepth 100000 in
theorem w_X2_findUnit_91 {E : KE} {A : Nat → Prop} {D : va_G} {T : KT} (h0 h1 h2 h3 h4 h5 h6 h7 h8 : Nat) (C : kx_C E cX2_findUnit 3 none RX2 2 46 D T) (N : Nat) (x : Int32 × Int64 × Int64 × Int64 × Int64) (m_count m_threes : Int32) (m_primeA m_primeB : Nat → Int64) (m_p1_a m_p1_b : Int64) (R : kx_RV E cX2_findUnit D A (w22_X2 T h0 h1 h2 h3 h4 h5 h6 h7 h8 m_count m_threes x.1 m_primeA m_primeB x.2.1 x.2.2.1 x.2.2.2.1 x.2.2.2.2 m_p1_a m_p1_b)) : ∀ (k : Nat), ∀ (m_unit : Int32) (m_found_a m_found_b m_product_a m_product_b : Int64) (v2 : Int32) (H : Heap) (locs : List Loc) (ls : Array Slot), kx_H E D A H locs (w22_X2 T h0 h1 h2 h3 h4 h5 h6 h7 h8 m_count m_threes m_unit m_primeA m_primeB m_found_a m_found_b m_product_a m_product_b m_p1_a m_p1_b) → lv_has ls 3 [(0, .ref h0), (1, .ref h8), (2, .int v2)] → f_X2_findUnit_91 N k v2 m_unit m_found_a m_found_b m_product_a m_product_b m_p1_a m_p1_b = some x → kx_W E H locs 91 ls [] := by
  intro k
  induction k with
  | zero =>
    intro m_unit m_found_a m_found_b m_product_a m_product_b v2 H locs ls X hl hf
    cases (show (none : Option (Int32 × Int64 × Int64 × Int64 × Int64)) = some x from hf)
  | succ k ih =>
    intro m_unit m_found_a m_found_b m_product_a m_product_b v2 H locs ls X hl hf
    rw [f_X2_findUnit_91] at hf
    refine x_iload_n 92 C dX2_findUnit_91 hl 2 rfl rfl ?_
    refine x_bipush 94 C dX2_findUnit_92 (6 : Int32) kv_bipush_6 rfl ?_
    refine x_icmp_ge 129 97 C dX2_findUnit_94 rfl rfl hf (fun hf => ?_) (fun hf => ?_)
    · obtain rfl := Option.some.inj hf
      exact R _ _ _ _ X dX2_findUnit_129
    refine x_aload_n 98 C dX2_findUnit_97 hl 0 rfl rfl ?_
    refine x_get 101 C dX2_findUnit_98 X kf_X2_36 0 rfl rfl rfl ?_
    refine x_aload_n 102 C dX2_findUnit_101 hl 1 rfl rfl ?_
    obtain ⟨y102, hy102, hf⟩ := kx_bind hf
    refine x_callVi 105 C dX2_findUnit_102 X hl kl_X2_140 (c_X5_isSame E.2.1 D T h7 h8  m_product_a m_product_b m_p1_a m_p1_b y102 hy102) rfl rfl [] rfl rfl rfl rfl rfl cb_49 rfl (fun H locs X => ?_)
    refine x_if_ne 129 108 C dX2_findUnit_105 rfl rfl hf (fun hf => ?_) (fun hf => ?_)
    · obtain rfl := Option.some.inj hf
      exact R _ _ _ _ X dX2_findUnit_129
    refine x_aload_n 109 C dX2_findUnit_108 hl 0 rfl rfl ?_
    refine x_get 112 C dX2_findUnit_109 X kf_X2_36 0 rfl rfl rfl ?_
    refine x_iconst 113 C dX2_findUnit_112 (1 : Int32) kv_iconst_1 rfl ?_
    obtain ⟨y113, hy113, hf⟩ := kx_bind hf
    refine x_callVv 116 C dX2_findUnit_113 X hl kl_X2_144 (c_X5_multiplyByUnit E.2.1 D T h7 N (1 : Int32) m_product_a m_product_b y113 hy113) rfl rfl [] rfl rfl rfl rfl rfl cb_50 rfl (fun H locs X => ?_)
    refine x_aload_n 117 C dX2_findUnit_116 hl 0 rfl rfl ?_
    refine x_iload_n 118 C dX2_findUnit_117 hl 2 rfl rfl ?_
    refine x_iconst 119 C dX2_findUnit_118 (1 : Int32) kv_iconst_1 rfl ?_
    refine x_iadd 120 C dX2_findUnit_119 rfl ?_
    refine x_put 123 C dX2_findUnit_120 X kp_X2_43 0 rfl rfl rfl rfl (w22_X2 T h0 h1 h2 h3 h4 h5 h6 h7 h8 m_count m_threes (v2 + (1 : Int32)) m_primeA m_primeB m_found_a m_found_b y113.1 y113.2 m_p1_a m_p1_b) rfl rfl (fun H locs X => ?_)
    refine x_iinc 126 C dX2_findUnit_123 (1 : Int32) kv_iconst_1 [(2, .int (v2 + (1 : Int32))), (0, .ref h0), (1, .ref h8)] hl 2 rfl rfl rfl rfl (fun ls hl => ?_)
    refine x_goto 91 C dX2_findUnit_126 rfl ?_
    exact ih (v2 + (1 : Int32)) m_found_a m_found_b y113.1 y113.2 (v2 + (1 : Int32)) _ _ _ X (lv_sub hl [1, 2, 0] rfl) hf
set_option maxHeartbeats 4000000 in
set_option maxRecDepth 100000 in
theorem w_X2_findUnit_58 {E : KE} {A : Nat → Prop} {D : va_G} {T : KT} (h0 h1 h2 h3 h4 h5 h6 h7 h8 : Nat) (C : kx_C E cX2_findUnit 3 none RX2 2 46 D T) (N : Nat) (x : Int32 × Int64 × Int64 × Int64 × Int64) (m_count m_threes : Int32) (m_primeA m_primeB : Nat → Int64) (m_p1_a m_p1_b : Int64) (R : kx_RV E cX2_findUnit D A (w22_X2 T h0 h1 h2 h3 h4 h5 h6 h7 h8 m_count m_threes x.1 m_primeA m_primeB x.2.1 x.2.2.1 x.2.2.2.1 x.2.2.2.2 m_p1_a m_p1_b)) : ∀ (k : Nat), ∀ (m_unit : Int32) (m_found_a m_found_b m_product_a m_product_b : Int64) (v2 : Int32) (H : Heap) (locs : List Loc) (ls : Array Slot), kx_H E D A H locs (w22_X2 T h0 h1 h2 h3 h4 h5 h6 h7 h8 m_count m_threes m_unit m_primeA m_primeB m_found_a m_found_b m_product_a m_product_b m_p1_a m_p1_b) → lv_has ls 3 [(0, .ref h0), (1, .ref h8), (2, .int v2)] → f_X2_findUnit_58 N k v2 m_threes m_unit m_found_a m_found_b m_product_a m_product_b m_p1_a m_p1_b = some x → kx_W E H locs 58 ls [] := by
  intro k
  induction k with
  | zero =>
    intro m_unit m_found_a m_found_b m_product_a m_product_b v2 H locs ls X hl hf
    cases (show (none : Option (Int32 × Int64 × Int64 × Int64 × Int64)) = some x from hf)
  | succ k ih =>
    intro m_unit m_found_a m_found_b m_product_a m_product_b v2 H locs ls X hl hf
    rw [f_X2_findUnit_58] at hf
    refine x_iload_n 59 C dX2_findUnit_58 hl 2 rfl rfl ?_
    refine x_aload_n 60 C dX2_findUnit_59 hl 0 rfl rfl ?_
    refine x_get 63 C dX2_findUnit_60 X kf_X2_54 0 rfl rfl rfl ?_
    refine x_icmp_ge 89 66 C dX2_findUnit_63 rfl rfl hf (fun hf => ?_) (fun hf => ?_)
    · refine x_iconst 90 C dX2_findUnit_89 (0 : Int32) kv_iconst_0 rfl ?_
      refine x_istore_n 91 C dX2_findUnit_90 [(2, .int (0 : Int32)), (0, .ref h0), (1, .ref h8)] hl rfl rfl rfl (fun ls hl => ?_)
      exact w_X2_findUnit_91 h0 h1 h2 h3 h4 h5 h6 h7 h8 C N x m_count m_threes m_primeA m_primeB m_p1_a m_p1_b R  N m_unit m_found_a m_found_b m_product_a m_product_b (0 : Int32) _ _ _ X (lv_sub hl [1, 2, 0] rfl) hf
    refine x_iload_n 67 C dX2_findUnit_66 hl 2 rfl rfl ?_
    refine x_bipush 69 C dX2_findUnit_67 (60 : Int32) kv_bipush_60 rfl ?_
    refine x_icmp_ge 89 72 C dX2_findUnit_69 rfl rfl hf (fun hf => ?_) (fun hf => ?_)
    · refine x_iconst 90 C dX2_findUnit_89 (0 : Int32) kv_iconst_0 rfl ?_
      refine x_istore_n 91 C dX2_findUnit_90 [(2, .int (0 : Int32)), (0, .ref h0), (1, .ref h8)] hl rfl rfl rfl (fun ls hl => ?_)
      exact w_X2_findUnit_91 h0 h1 h2 h3 h4 h5 h6 h7 h8 C N x m_count m_threes m_primeA m_primeB m_p1_a m_p1_b R  N m_unit m_found_a m_found_b m_product_a m_product_b (0 : Int32) _ _ _ X (lv_sub hl [1, 2, 0] rfl) hf
    refine x_aload_n 73 C dX2_findUnit_72 hl 0 rfl rfl ?_
    refine x_get 76 C dX2_findUnit_73 X kf_X2_36 0 rfl rfl rfl ?_
    refine x_aload_n 77 C dX2_findUnit_76 hl 0 rfl rfl ?_
    refine x_get 80 C dX2_findUnit_77 X kf_X2_33 0 rfl rfl rfl ?_
    obtain ⟨y80, hy80, hf⟩ := kx_bind hf
    refine x_callVv 83 C dX2_findUnit_80 X hl kl_X2_135 (c_X5_multiply E.2.1 D T h7 h6  m_product_a m_product_b m_found_a m_found_b y80 hy80) rfl rfl [] rfl rfl rfl rfl rfl cb_51 rfl (fun H locs X => ?_)
    refine x_iinc 86 C dX2_findUnit_83 (1 : Int32) kv_iconst_1 [(2, .int (v2 + (1 : Int32))), (0, .ref h0), (1, .ref h8)] hl 2 rfl rfl rfl rfl (fun ls hl => ?_)
    refine x_goto 58 C dX2_findUnit_86 rfl ?_
    exact ih m_unit m_found_a m_found_b y80.1 y80.2 (v2 + (1 : Int32)) _ _ _ X (lv_sub hl [1, 2, 0] rfl) hf
set_option maxHeartbeats 4000000 in
set_option maxRecDepth 100000 in
theorem w_X2_findUnit_11 {E : KE} {A : Nat → Prop} {D : va_G} {T : KT} (h0 h1 h2 h3 h4 h5 h6 h7 h8 : Nat) (C : kx_C E cX2_findUnit 3 none RX2 2 46 D T) (N : Nat) (x : Int32 × Int64 × Int64 × Int64 × Int64) (m_count m_threes : Int32) (m_primeA m_primeB : Nat → Int64) (m_p1_a m_p1_b : Int64) (R : kx_RV E cX2_findUnit D A (w22_X2 T h0 h1 h2 h3 h4 h5 h6 h7 h8 m_count m_threes x.1 m_primeA m_primeB x.2.1 x.2.2.1 x.2.2.2.1 x.2.2.2.2 m_p1_a m_p1_b)) : ∀ (k : Nat), ∀ (m_unit : Int32) (m_found_a m_found_b m_product_a m_product_b : Int64) (v2 : Int32) (H : Heap) (locs : List Loc) (ls : Array Slot), kx_H E D A H locs (w22_X2 T h0 h1 h2 h3 h4 h5 h6 h7 h8 m_count m_threes m_unit m_primeA m_primeB m_found_a m_found_b m_product_a m_product_b m_p1_a m_p1_b) → lv_has ls 3 [(0, .ref h0), (1, .ref h8), (2, .int v2)] → f_X2_findUnit_11 N k v2 m_count m_threes m_unit m_primeA m_primeB m_found_a m_found_b m_product_a m_product_b m_p1_a m_p1_b = some x → kx_W E H locs 11 ls [] := by
  intro k
  induction k with
  | zero =>
    intro m_unit m_found_a m_found_b m_product_a m_product_b v2 H locs ls X hl hf
    cases (show (none : Option (Int32 × Int64 × Int64 × Int64 × Int64)) = some x from hf)
  | succ k ih =>
    intro m_unit m_found_a m_found_b m_product_a m_product_b v2 H locs ls X hl hf
    rw [f_X2_findUnit_11] at hf
    refine x_iload_n 12 C dX2_findUnit_11 hl 2 rfl rfl ?_
    refine x_aload_n 13 C dX2_findUnit_12 hl 0 rfl rfl ?_
    refine x_get 16 C dX2_findUnit_13 X kf_X2_39 0 rfl rfl rfl ?_
    refine x_icmp_ge 45 19 C dX2_findUnit_16 rfl rfl hf (fun hf => ?_) (fun hf => ?_)
    · refine x_aload_n 46 C dX2_findUnit_45 hl 0 rfl rfl ?_
      refine x_get 49 C dX2_findUnit_46 X kf_X2_33 0 rfl rfl rfl ?_
      refine x_lconst 50 C dX2_findUnit_49 (1 : Int64) kv_lconst_1 rfl ?_
      refine x_ldc2_w 53 C dX2_findUnit_50 (-1 : Int64) kc_X2_138 rfl ?_
      obtain ⟨y53, hy53, hf⟩ := kx_bind hf
      refine x_callVv 56 C dX2_findUnit_53 X hl kl_X2_70 (c_X5_set E.2.1 D T h6 (1 : Int64) (-1 : Int64) m_found_a m_found_b y53 hy53) rfl rfl [] rfl rfl rfl rfl rfl cb_52 rfl (fun H locs X => ?_)
      refine x_iconst 57 C dX2_findUnit_56 (0 : Int32) kv_iconst_0 rfl ?_
      refine x_istore_n 58 C dX2_findUnit_57 [(2, .int (0 : Int32)), (0, .ref h0), (1, .ref h8)] hl rfl rfl rfl (fun ls hl => ?_)
      exact w_X2_findUnit_58 h0 h1 h2 h3 h4 h5 h6 h7 h8 C N x m_count m_threes m_primeA m_primeB m_p1_a m_p1_b R  N m_unit y53.1 y53.2 m_product_a m_product_b (0 : Int32) _ _ _ X (lv_sub hl [1, 2, 0] rfl) hf
    refine x_aload_n 20 C dX2_findUnit_19 hl 0 rfl rfl ?_
    refine x_iload_n 21 C dX2_findUnit_20 hl 2 rfl rfl ?_
    refine x_aload_n 22 C dX2_findUnit_21 hl 0 rfl rfl ?_
    refine x_get 25 C dX2_findUnit_22 X kf_X2_33 0 rfl rfl rfl ?_
    obtain ⟨y25, hy25, hf⟩ := kx_bind hf
    refine x_callVv 28 C dX2_findUnit_25 X hl kl_X2_132 (c_X2_load_p2_found E.2.1 D T h0 h1 h2 h3 h4 h5 h6 h7 v2 m_count m_threes m_unit m_primeA m_primeB m_found_a m_found_b y25 hy25) rfl rfl [] rfl rfl rfl rfl rfl cb_53 rfl (fun H locs X => ?_)
    refine x_aload_n 29 C dX2_findUnit_28 hl 0 rfl rfl ?_
    refine x_get 32 C dX2_findUnit_29 X kf_X2_36 0 rfl rfl rfl ?_
    refine x_aload_n 33 C dX2_findUnit_32 hl 0 rfl rfl ?_
    refine x_get 36 C dX2_findUnit_33 X kf_X2_33 0 rfl rfl rfl ?_
    obtain ⟨y36, hy36, hf⟩ := kx_bind hf
    refine x_callVv 39 C dX2_findUnit_36 X hl kl_X2_135 (c_X5_multiply E.2.1 D T h7 h6  m_product_a m_product_b y25.1 y25.2 y36 hy36) rfl rfl [] rfl rfl rfl rfl rfl cb_51 rfl (fun H locs X => ?_)
    refine x_iinc 42 C dX2_findUnit_39 (1 : Int32) kv_iconst_1 [(2, .int (v2 + (1 : Int32))), (0, .ref h0), (1, .ref h8)] hl 2 rfl rfl rfl rfl (fun ls hl => ?_)
    refine x_goto 11 C dX2_findUnit_42 rfl ?_
    exact ih m_unit y25.1 y25.2 y36.1 y36.2 (v2 + (1 : Int32)) _ _ _ X (lv_sub hl [1, 2, 0] rfl) hf
set_option maxHeartbeats 4000000 in
set_option maxRecDepth 100000 in
theorem c_X2_findUnit (l : Launch) (D : va_G) (T : KT) (h0 h1 h2 h3 h4 h5 h6 h7 h8 : Nat) (N : Nat)  (m_count m_threes m_unit : Int32) (m_primeA m_primeB : Nat → Int64) (m_found_a m_found_b m_product_a m_product_b m_p1_a m_p1_b : Int64) (x : Int32 × Int64 × Int64 × Int64 × Int64) (hf : f_X2_findUnit N m_count m_threes m_unit m_primeA m_primeB m_found_a m_found_b m_p1_a m_p1_b = some x) : kx_MV l yX2_findUnit cX2_findUnit 3 none 2 46 D T [.ref h0, .ref h8] (w22_X2 T h0 h1 h2 h3 h4 h5 h6 h7 h8 m_count m_threes m_unit m_primeA m_primeB m_found_a m_found_b m_product_a m_product_b m_p1_a m_p1_b) (w22_X2 T h0 h1 h2 h3 h4 h5 h6 h7 h8 m_count m_threes x.1 m_primeA m_primeB x.2.1 x.2.2.1 x.2.2.2.1 x.2.2.2.2 m_p1_a m_p1_b) := by
  refine kx_ofMV RX2 rfl (plainFor_of_name (x := yX2_findUnit) kpn_X2) rfl ?_
  intro E A H ls _ C X R hl
  have hl : lv_has ls 3 [(0, .ref h0), (1, .ref h8)] := hl
  rw [f_X2_findUnit] at hf
  refine x_aload_n 1 C dX2_findUnit_0 hl 0 rfl rfl ?_
  refine x_get 4 C dX2_findUnit_1 X kf_X2_36 0 rfl rfl rfl ?_
  refine x_lconst 5 C dX2_findUnit_4 (1 : Int64) kv_lconst_1 rfl ?_
  refine x_lconst 6 C dX2_findUnit_5 (0 : Int64) kv_lconst_0 rfl ?_
  obtain ⟨y6, hy6, hf⟩ := kx_bind hf
  refine x_callVv 9 C dX2_findUnit_6 X hl kl_X2_70 (c_X5_set E.2.1 D T h7 (1 : Int64) (0 : Int64) m_product_a m_product_b y6 hy6) rfl rfl [] rfl rfl rfl rfl rfl cb_50 rfl (fun H locs X => ?_)
  refine x_iconst 10 C dX2_findUnit_9 (0 : Int32) kv_iconst_0 rfl ?_
  refine x_istore_n 11 C dX2_findUnit_10 [(2, .int (0 : Int32)), (0, .ref h0), (1, .ref h8)] hl rfl rfl rfl (fun ls hl => ?_)
  exact w_X2_findUnit_11 h0 h1 h2 h3 h4 h5 h6 h7 h8 C N x m_count m_threes m_primeA m_primeB m_p1_a m_p1_b R  N m_unit m_found_a m_found_b y6.1 y6.2 (0 : Int32) _ _ _ X (lv_sub hl [1, 2, 0] rfl) hf
set_option maxHeartbeats 4000000 in
set_option maxRecDepth 100000 in
theorem c_X2_spell (l : Launch) (D : va_G) (T : KT) (h0 h1 h2 h3 h4 h5 h6 h7 h8 h9 h10 h11 h12 h13 h14 h15 h16 h17 : Nat) (N : Nat)  (m_count m_threes m_unit : Int32) (m_primeA m_primeB m_norms : Nat → Int64) (m_euclid_count : Int32) (m_euclid_last_a m_euclid_last_b m_euclid_lastOfFirst_a m_euclid_lastOfFirst_b m_euclid_lastOfSecond_a m_euclid_lastOfSecond_b m_euclid_next_a m_euclid_next_b m_euclid_nextOfFirst_a m_euclid_nextOfFirst_b m_euclid_nextOfSecond_a m_euclid_nextOfSecond_b m_euclid_q_a m_euclid_q_b : Int64) (m_euclid_quotientA m_euclid_quotientB : Nat → Int64) (m_left_a m_left_b m_found_a m_found_b m_product_a m_product_b m_p1_a m_p1_b : Int64) (x : Int32 × Int32 × Int32 × (Nat → Int64) × (Nat → Int64) × (Nat → Int64) × Int32 × Int64 × Int64 × Int64 × Int64 × Int64 × Int64 × Int64 × Int64 × Int64 × Int64 × Int64 × Int64 × Int64 × Int64 × (Nat → Int64) × (Nat → Int64) × Int64 × Int64 × Int64 × Int64 × Int64 × Int64) (hf : f_X2_spell N m_primeA m_primeB m_norms m_euclid_count m_euclid_last_a m_euclid_last_b m_euclid_lastOfFirst_a m_euclid_lastOfFirst_b m_euclid_lastOfSecond_a m_euclid_lastOfSecond_b m_euclid_next_a m_euclid_next_b m_euclid_nextOfFirst_a m_euclid_nextOfFirst_b m_euclid_nextOfSecond_a m_euclid_nextOfSecond_b m_euclid_q_a m_euclid_q_b m_euclid_quotientA m_euclid_quotientB m_found_a m_found_b m_product_a m_product_b m_p1_a m_p1_b = some x) : kx_MV l yX2_spell cX2_spell 4 none 5 123 D T [.ref h0, .ref h17] (w11_X2 T h0 h1 h2 h3 h4 h5 h6 h7 h8 h9 h10 h11 h12 h13 h14 h15 h16 h17 m_count m_threes m_unit m_primeA m_primeB m_norms m_euclid_count m_euclid_last_a m_euclid_last_b m_euclid_lastOfFirst_a m_euclid_lastOfFirst_b m_euclid_lastOfSecond_a m_euclid_lastOfSecond_b m_euclid_next_a m_euclid_next_b m_euclid_nextOfFirst_a m_euclid_nextOfFirst_b m_euclid_nextOfSecond_a m_euclid_nextOfSecond_b m_euclid_q_a m_euclid_q_b m_euclid_quotientA m_euclid_quotientB m_left_a m_left_b m_found_a m_found_b m_product_a m_product_b m_p1_a m_p1_b) (w11_X2 T h0 h1 h2 h3 h4 h5 h6 h7 h8 h9 h10 h11 h12 h13 h14 h15 h16 h17 x.1 x.2.1 x.2.2.1 x.2.2.2.1 x.2.2.2.2.1 x.2.2.2.2.2.1 x.2.2.2.2.2.2.1 x.2.2.2.2.2.2.2.1 x.2.2.2.2.2.2.2.2.1 x.2.2.2.2.2.2.2.2.2.1 x.2.2.2.2.2.2.2.2.2.2.1 x.2.2.2.2.2.2.2.2.2.2.2.1 x.2.2.2.2.2.2.2.2.2.2.2.2.1 x.2.2.2.2.2.2.2.2.2.2.2.2.2.1 x.2.2.2.2.2.2.2.2.2.2.2.2.2.2.1 x.2.2.2.2.2.2.2.2.2.2.2.2.2.2.2.1 x.2.2.2.2.2.2.2.2.2.2.2.2.2.2.2.2.1 x.2.2.2.2.2.2.2.2.2.2.2.2.2.2.2.2.2.1 x.2.2.2.2.2.2.2.2.2.2.2.2.2.2.2.2.2.2.1 x.2.2.2.2.2.2.2.2.2.2.2.2.2.2.2.2.2.2.2.1 x.2.2.2.2.2.2.2.2.2.2.2.2.2.2.2.2.2.2.2.2.1 x.2.2.2.2.2.2.2.2.2.2.2.2.2.2.2.2.2.2.2.2.2.1 x.2.2.2.2.2.2.2.2.2.2.2.2.2.2.2.2.2.2.2.2.2.2.1 x.2.2.2.2.2.2.2.2.2.2.2.2.2.2.2.2.2.2.2.2.2.2.2.1 x.2.2.2.2.2.2.2.2.2.2.2.2.2.2.2.2.2.2.2.2.2.2.2.2.1 x.2.2.2.2.2.2.2.2.2.2.2.2.2.2.2.2.2.2.2.2.2.2.2.2.2.1 x.2.2.2.2.2.2.2.2.2.2.2.2.2.2.2.2.2.2.2.2.2.2.2.2.2.2.1 x.2.2.2.2.2.2.2.2.2.2.2.2.2.2.2.2.2.2.2.2.2.2.2.2.2.2.2.1 x.2.2.2.2.2.2.2.2.2.2.2.2.2.2.2.2.2.2.2.2.2.2.2.2.2.2.2.2 m_p1_a m_p1_b) := by
  refine kx_ofMV RX2 rfl (plainFor_of_name (x := yX2_spell) kpn_X2) rfl ?_
  intro E A H ls _ C X R hl
  have hl : lv_has ls 4 [(0, .ref h0), (1, .ref h17)] := hl
  rw [f_X2_spell] at hf
  refine x_aload_n 1 C dX2_spell_0 hl 0 rfl rfl ?_
  refine x_iconst 2 C dX2_spell_1 (0 : Int32) kv_iconst_0 rfl ?_
  refine x_put 5 C dX2_spell_2 X kp_X2_39 0 rfl rfl rfl rfl (w11_X2 T h0 h1 h2 h3 h4 h5 h6 h7 h8 h9 h10 h11 h12 h13 h14 h15 h16 h17 (0 : Int32) m_threes m_unit m_primeA m_primeB m_norms m_euclid_count m_euclid_last_a m_euclid_last_b m_euclid_lastOfFirst_a m_euclid_lastOfFirst_b m_euclid_lastOfSecond_a m_euclid_lastOfSecond_b m_euclid_next_a m_euclid_next_b m_euclid_nextOfFirst_a m_euclid_nextOfFirst_b m_euclid_nextOfSecond_a m_euclid_nextOfSecond_b m_euclid_q_a m_euclid_q_b m_euclid_quotientA m_euclid_quotientB m_left_a m_left_b m_found_a m_found_b m_product_a m_product_b m_p1_a m_p1_b) rfl rfl (fun H locs X => ?_)
  refine x_aload_n 6 C dX2_spell_5 hl 0 rfl rfl ?_
  refine x_iconst 7 C dX2_spell_6 (0 : Int32) kv_iconst_0 rfl ?_
  refine x_put 10 C dX2_spell_7 X kp_X2_43 0 rfl rfl rfl rfl (w11_X2 T h0 h1 h2 h3 h4 h5 h6 h7 h8 h9 h10 h11 h12 h13 h14 h15 h16 h17 (0 : Int32) m_threes (0 : Int32) m_primeA m_primeB m_norms m_euclid_count m_euclid_last_a m_euclid_last_b m_euclid_lastOfFirst_a m_euclid_lastOfFirst_b m_euclid_lastOfSecond_a m_euclid_lastOfSecond_b m_euclid_next_a m_euclid_next_b m_euclid_nextOfFirst_a m_euclid_nextOfFirst_b m_euclid_nextOfSecond_a m_euclid_nextOfSecond_b m_euclid_q_a m_euclid_q_b m_euclid_quotientA m_euclid_quotientB m_left_a m_left_b m_found_a m_found_b m_product_a m_product_b m_p1_a m_p1_b) rfl rfl (fun H locs X => ?_)
  refine x_aload_n 11 C dX2_spell_10 hl 0 rfl rfl ?_
  refine x_get 14 C dX2_spell_11 X kf_X2_29 0 rfl rfl rfl ?_
  refine x_aload_n 15 C dX2_spell_14 hl 1 rfl rfl ?_
  obtain ⟨y15, hy15, hf⟩ := kx_bind hf
  refine x_callVv 18 C dX2_spell_15 X hl kl_X2_46 (c_X5_copy E.2.1 D T h14 h17  m_left_a m_left_b m_p1_a m_p1_b y15 hy15) rfl rfl [] rfl rfl rfl rfl rfl cb_18 rfl (fun H locs X => ?_)
  refine x_aload_n 19 C dX2_spell_18 hl 0 rfl rfl ?_
  refine x_aload_n 20 C dX2_spell_19 hl 0 rfl rfl ?_
  refine x_get 23 C dX2_spell_20 X kf_X2_29 0 rfl rfl rfl ?_
  obtain ⟨y23, hy23, hf⟩ := kx_bind hf
  refine x_callVi 26 C dX2_spell_23 X hl kl_X2_50 (c_X5_takeOutThrees E.2.1 D T h14 N  y15.1 y15.2 y23 hy23) rfl rfl [.ref h0] rfl rfl rfl rfl rfl cb_19 rfl (fun H locs X => ?_)
  refine x_put 29 C dX2_spell_26 X kp_X2_54 0 rfl rfl rfl rfl (w11_X2 T h0 h1 h2 h3 h4 h5 h6 h7 h8 h9 h10 h11 h12 h13 h14 h15 h16 h17 (0 : Int32) y23.1 (0 : Int32) m_primeA m_primeB m_norms m_euclid_count m_euclid_last_a m_euclid_last_b m_euclid_lastOfFirst_a m_euclid_lastOfFirst_b m_euclid_lastOfSecond_a m_euclid_lastOfSecond_b m_euclid_next_a m_euclid_next_b m_euclid_nextOfFirst_a m_euclid_nextOfFirst_b m_euclid_nextOfSecond_a m_euclid_nextOfSecond_b m_euclid_q_a m_euclid_q_b m_euclid_quotientA m_euclid_quotientB y23.2.1 y23.2.2 m_found_a m_found_b m_product_a m_product_b m_p1_a m_p1_b) rfl rfl (fun H locs X => ?_)
  refine x_aload_n 30 C dX2_spell_29 hl 0 rfl rfl ?_
  refine x_get 33 C dX2_spell_30 X kf_X2_29 0 rfl rfl rfl ?_
  refine x_get 36 C dX2_spell_33 X kf_X2_57 14 rfl rfl rfl ?_
  refine x_aload_n 37 C dX2_spell_36 hl 0 rfl rfl ?_
  refine x_get 40 C dX2_spell_37 X kf_X2_29 0 rfl rfl rfl ?_
  refine x_get 43 C dX2_spell_40 X kf_X2_61 14 rfl rfl rfl ?_
  obtain ⟨y43, hy43, hf⟩ := kx_bind hf
  refine x_callSl 46 C dX2_spell_43 X hl kl_X2_64 (c_X9_divisor E.2.1 D T  N y23.2.1 y23.2.2  y43 hy43) [] rfl rfl rfl rfl rfl cb_20 rfl (fun H locs X => ?_)
  refine x_lstore_n 47 C dX2_spell_46 [(2, .long y43), (0, .ref h0), (1, .ref h17)] hl rfl rfl rfl (fun ls hl => ?_)
  refine x_lload_n 48 C dX2_spell_47 hl 0 rfl rfl ?_
  refine x_lconst 49 C dX2_spell_48 (1 : Int64) kv_lconst_1 rfl ?_
  refine x_lcmp_ge 54 50 53 C dX2_spell_49 dX2_spell_50 rfl rfl rfl hf (fun hf => ?_) (fun hf => ?_)
  · refine x_aload_n 55 C dX2_spell_54 hl 1 rfl rfl ?_
    refine x_get 58 C dX2_spell_55 X kf_X2_29 0 rfl rfl rfl ?_
    refine x_aload_n 59 C dX2_spell_58 hl 1 rfl rfl ?_
    refine x_get 62 C dX2_spell_59 X kf_X2_29 0 rfl rfl rfl ?_
    refine x_get 65 C dX2_spell_62 X kf_X2_57 14 rfl rfl rfl ?_
    refine x_lload_n 66 C dX2_spell_65 hl 0 rfl rfl ?_
    refine x_ldiv 67 C dX2_spell_66 hf rfl (fun hf => ?_)
    refine x_aload_n 68 C dX2_spell_67 hl 1 rfl rfl ?_
    refine x_get 71 C dX2_spell_68 X kf_X2_29 0 rfl rfl rfl ?_
    refine x_get 74 C dX2_spell_71 X kf_X2_61 14 rfl rfl rfl ?_
    refine x_lload_n 75 C dX2_spell_74 hl 0 rfl rfl ?_
    refine x_ldiv 76 C dX2_spell_75 hf rfl (fun hf => ?_)
    obtain ⟨y76, hy76, hf⟩ := kx_bind hf
    refine x_callVv 79 C dX2_spell_76 X hl kl_X2_70 (c_X5_set E.2.1 D T h14 (y23.2.1 / y43) (y23.2.2 / y43) y23.2.1 y23.2.2 y76 hy76) rfl rfl [] rfl rfl rfl rfl rfl cb_19 rfl (fun H locs X => ?_)
    refine x_aload_n 80 C dX2_spell_79 hl 1 rfl rfl ?_
    refine x_lload_n 81 C dX2_spell_80 hl 0 rfl rfl ?_
    obtain ⟨y81, hy81, hf⟩ := kx_bind hf
    refine x_callVv 84 C dX2_spell_81 X hl kl_X2_74 (c_X2_spellWhole E.2.1 D T h0 h1 h2 h3 h4 h14 h15 h16 N y43 (0 : Int32) y23.1 (0 : Int32) m_primeA m_primeB m_norms m_found_a m_found_b y81 hy81) rfl rfl [] rfl rfl rfl rfl rfl cb_21 rfl (fun H locs X => ?_)
    refine x_aload_n 85 C dX2_spell_84 hl 1 rfl rfl ?_
    obtain ⟨y85, hy85, hf⟩ := kx_bind hf
    refine x_callVv 88 C dX2_spell_85 X hl kl_X2_78 (c_X2_spellRest E.2.1 D T h0 h1 h2 h3 h4 h5 h6 h7 h8 h9 h10 h11 h12 h13 h14 h15 h16 N  y81.1 y23.1 (0 : Int32) y81.2.1 y81.2.2.1 y81.2.2.2.1 m_euclid_count m_euclid_last_a m_euclid_last_b m_euclid_lastOfFirst_a m_euclid_lastOfFirst_b m_euclid_lastOfSecond_a m_euclid_lastOfSecond_b m_euclid_next_a m_euclid_next_b m_euclid_nextOfFirst_a m_euclid_nextOfFirst_b m_euclid_nextOfSecond_a m_euclid_nextOfSecond_b m_euclid_q_a m_euclid_q_b m_euclid_quotientA m_euclid_quotientB y76.1 y76.2 y81.2.2.2.2.1 y81.2.2.2.2.2 y85 hy85) rfl rfl [] rfl rfl rfl rfl rfl cb_22 rfl (fun H locs X => ?_)
    refine x_aload_n 89 C dX2_spell_88 hl 1 rfl rfl ?_
    refine x_aload_n 90 C dX2_spell_89 hl 2 rfl rfl ?_
    obtain ⟨y90, hy90, hf⟩ := kx_bind hf
    refine x_callVv 93 C dX2_spell_90 X hl kl_X2_81 (c_X2_findUnit E.2.1 D T h0 h1 h2 h3 h4 h14 h15 h16 h17 N  y85.1 y23.1 (0 : Int32) y85.2.1 y85.2.2.1 y85.2.2.2.2.2.2.2.2.2.2.2.2.2.2.2.2.2.2.2.2.2.1 y85.2.2.2.2.2.2.2.2.2.2.2.2.2.2.2.2.2.2.2.2.2.2 m_product_a m_product_b m_p1_a m_p1_b y90 hy90) rfl rfl [] rfl rfl rfl rfl rfl cb_23 rfl (fun H locs X => ?_)
    obtain rfl := Option.some.inj hf
    exact R _ _ _ _ X dX2_spell_93
  obtain rfl := Option.some.inj hf
  exact R _ _ _ _ X dX2_spell_53
set_option maxHeartbeats 4000000 in
set_option maxRecDepth 100000 in
theorem c_X2_total (l : Launch) (D : va_G) (T : KT) (h0 h1 h2 h3 h4 h5 h6 h7 : Nat)  (m_count m_threes m_unit : Int32) (x : Int32) (hf : f_X2_total m_count m_threes = some x) : kx_MI l yX2_total cX2_total 1 (some .int) 0 0 D T [.ref h0] (w19_X2 T h0 h1 h2 h3 h4 h5 h6 h7 m_count m_threes m_unit) (w19_X2 T h0 h1 h2 h3 h4 h5 h6 h7 m_count m_threes m_unit) x := by
  refine kx_ofMI RX2 rfl (plainFor_of_name (x := yX2_total) kpn_X2) rfl ?_
  intro E A H ls _ C X R hl
  have hl : lv_has ls 1 [(0, .ref h0)] := hl
  rw [f_X2_total] at hf
  refine x_aload_n 1 C dX2_total_0 hl 0 rfl rfl ?_
  refine x_get 4 C dX2_total_1 X kf_X2_54 0 rfl rfl rfl ?_
  refine x_aload_n 5 C dX2_total_4 hl 0 rfl rfl ?_
  refine x_get 8 C dX2_total_5 X kf_X2_39 0 rfl rfl rfl ?_
  refine x_iadd 9 C dX2_total_8 rfl ?_
  obtain rfl := Option.some.inj hf
  exact R _ _ _ _ X dX2_total_9
set_option maxHeartbeats 4000000 in
set_option maxRecDepth 100000 in
theorem c_X10_isPrimeNumber_p1_one (l : Launch) (D : va_G) (T : KT) (h : Nat → Nat) (N : Nat)  (m_drawers_full m_drawers_kept : Int32) (m_drawers_partA m_drawers_partB m_drawers_keptA m_drawers_keptB m_drawers_keptFull : Nat → Int32) (m_tape_size m_tape_plain m_tape_omegas m_tape_end m_tape_place m_tape_plainTold m_tape_omegasTold : Int32) (m_tape_bytes : Nat → Int32) (m_euclid_count : Int32) (m_euclid_last_a m_euclid_last_b m_euclid_lastOfFirst_a m_euclid_lastOfFirst_b m_euclid_lastOfSecond_a m_euclid_lastOfSecond_b m_euclid_next_a m_euclid_next_b m_euclid_nextOfFirst_a m_euclid_nextOfFirst_b m_euclid_nextOfSecond_a m_euclid_nextOfSecond_b m_euclid_q_a m_euclid_q_b : Int64) (m_euclid_quotientA m_euclid_quotientB : Nat → Int64) (m_modulus_step m_modulus_width m_modulus_slant m_modulus_square_a m_modulus_square_b : Int64) (m_factors_count m_factors_threes m_factors_unit : Int32) (m_factors_primeA m_factors_primeB m_factors_norms : Nat → Int64) (m_factors_euclid_count : Int32) (m_factors_euclid_last_a m_factors_euclid_last_b m_factors_euclid_lastOfFirst_a m_factors_euclid_lastOfFirst_b m_factors_euclid_lastOfSecond_a m_factors_euclid_lastOfSecond_b m_factors_euclid_next_a m_factors_euclid_next_b m_factors_euclid_nextOfFirst_a m_factors_euclid_nextOfFirst_b m_factors_euclid_nextOfSecond_a m_factors_euclid_nextOfSecond_b m_factors_euclid_q_a m_factors_euclid_q_b : Int64) (m_factors_euclid_quotientA m_factors_euclid_quotientB : Nat → Int64) (m_factors_left_a m_factors_left_b m_factors_found_a m_factors_found_b m_factors_product_a m_factors_product_b : Int64) (m_primes_count : Int32) (m_primes_primeA m_primes_primeB : Nat → Int32) (m_primes_found_a m_primes_found_b : Int64) (m_rings_foundA m_rings_foundB m_rings_all m_rings_mostOfOneRow m_letters_count : Int32) (m_letters_bytes : Nat → Int32) (m_one_a m_one_b m_two_a m_two_b m_three_a m_three_b m_four_a m_four_b m_out_a m_out_b m_spare_a m_spare_b : Int64) (m_marks : Nat → Int32) (x : Int32 × Int32 × Int32 × Int32 × (Nat → Int64) × (Nat → Int64) × (Nat → Int64) × Int32 × Int64 × Int64 × Int64 × Int64 × Int64 × Int64 × Int64 × Int64 × Int64 × Int64 × Int64 × Int64 × Int64 × Int64 × (Nat → Int64) × (Nat → Int64) × Int64 × Int64 × Int64 × Int64 × Int64 × Int64) (hf : f_X10_isPrimeNumber N m_factors_count m_factors_threes m_factors_unit m_factors_primeA m_factors_primeB m_factors_norms m_factors_euclid_count m_factors_euclid_last_a m_factors_euclid_last_b m_factors_euclid_lastOfFirst_a m_factors_euclid_lastOfFirst_b m_factors_euclid_lastOfSecond_a m_factors_euclid_lastOfSecond_b m_factors_euclid_next_a m_factors_euclid_next_b m_factors_euclid_nextOfFirst_a m_factors_euclid_nextOfFirst_b m_factors_euclid_nextOfSecond_a m_factors_euclid_nextOfSecond_b m_factors_euclid_q_a m_factors_euclid_q_b m_factors_euclid_quotientA m_factors_euclid_quotientB m_factors_left_a m_factors_left_b m_factors_found_a m_factors_found_b m_factors_product_a m_factors_product_b m_one_a m_one_b = some x) : kx_MI l yX10_isPrimeNumber cX10_isPrimeNumber 2 (some .boolean) 6 146 D T [.ref (h 0), .ref (h 45)] (wC T h m_drawers_full m_drawers_kept m_drawers_partA m_drawers_partB m_drawers_keptA m_drawers_keptB m_drawers_keptFull m_tape_size m_tape_plain m_tape_omegas m_tape_end m_tape_place m_tape_plainTold m_tape_omegasTold m_tape_bytes m_euclid_count m_euclid_last_a m_euclid_last_b m_euclid_lastOfFirst_a m_euclid_lastOfFirst_b m_euclid_lastOfSecond_a m_euclid_lastOfSecond_b m_euclid_next_a m_euclid_next_b m_euclid_nextOfFirst_a m_euclid_nextOfFirst_b m_euclid_nextOfSecond_a m_euclid_nextOfSecond_b m_euclid_q_a m_euclid_q_b m_euclid_quotientA m_euclid_quotientB m_modulus_step m_modulus_width m_modulus_slant m_modulus_square_a m_modulus_square_b m_factors_count m_factors_threes m_factors_unit m_factors_primeA m_factors_primeB m_factors_norms m_factors_euclid_count m_factors_euclid_last_a m_factors_euclid_last_b m_factors_euclid_lastOfFirst_a m_factors_euclid_lastOfFirst_b m_factors_euclid_lastOfSecond_a m_factors_euclid_lastOfSecond_b m_factors_euclid_next_a m_factors_euclid_next_b m_factors_euclid_nextOfFirst_a m_factors_euclid_nextOfFirst_b m_factors_euclid_nextOfSecond_a m_factors_euclid_nextOfSecond_b m_factors_euclid_q_a m_factors_euclid_q_b m_factors_euclid_quotientA m_factors_euclid_quotientB m_factors_left_a m_factors_left_b m_factors_found_a m_factors_found_b m_factors_product_a m_factors_product_b m_primes_count m_primes_primeA m_primes_primeB m_primes_found_a m_primes_found_b m_rings_foundA m_rings_foundB m_rings_all m_rings_mostOfOneRow m_letters_count m_letters_bytes m_one_a m_one_b m_two_a m_two_b m_three_a m_three_b m_four_a m_four_b m_out_a m_out_b m_spare_a m_spare_b m_marks) (wC T h m_drawers_full m_drawers_kept m_drawers_partA m_drawers_partB m_drawers_keptA m_drawers_keptB m_drawers_keptFull m_tape_size m_tape_plain m_tape_omegas m_tape_end m_tape_place m_tape_plainTold m_tape_omegasTold m_tape_bytes m_euclid_count m_euclid_last_a m_euclid_last_b m_euclid_lastOfFirst_a m_euclid_lastOfFirst_b m_euclid_lastOfSecond_a m_euclid_lastOfSecond_b m_euclid_next_a m_euclid_next_b m_euclid_nextOfFirst_a m_euclid_nextOfFirst_b m_euclid_nextOfSecond_a m_euclid_nextOfSecond_b m_euclid_q_a m_euclid_q_b m_euclid_quotientA m_euclid_quotientB m_modulus_step m_modulus_width m_modulus_slant m_modulus_square_a m_modulus_square_b x.2.1 x.2.2.1 x.2.2.2.1 x.2.2.2.2.1 x.2.2.2.2.2.1 x.2.2.2.2.2.2.1 x.2.2.2.2.2.2.2.1 x.2.2.2.2.2.2.2.2.1 x.2.2.2.2.2.2.2.2.2.1 x.2.2.2.2.2.2.2.2.2.2.1 x.2.2.2.2.2.2.2.2.2.2.2.1 x.2.2.2.2.2.2.2.2.2.2.2.2.1 x.2.2.2.2.2.2.2.2.2.2.2.2.2.1 x.2.2.2.2.2.2.2.2.2.2.2.2.2.2.1 x.2.2.2.2.2.2.2.2.2.2.2.2.2.2.2.1 x.2.2.2.2.2.2.2.2.2.2.2.2.2.2.2.2.1 x.2.2.2.2.2.2.2.2.2.2.2.2.2.2.2.2.2.1 x.2.2.2.2.2.2.2.2.2.2.2.2.2.2.2.2.2.2.1 x.2.2.2.2.2.2.2.2.2.2.2.2.2.2.2.2.2.2.2.1 x.2.2.2.2.2.2.2.2.2.2.2.2.2.2.2.2.2.2.2.2.1 x.2.2.2.2.2.2.2.2.2.2.2.2.2.2.2.2.2.2.2.2.2.1 x.2.2.2.2.2.2.2.2.2.2.2.2.2.2.2.2.2.2.2.2.2.2.1 x.2.2.2.2.2.2.2.2.2.2.2.2.2.2.2.2.2.2.2.2.2.2.2.1 x.2.2.2.2.2.2.2.2.2.2.2.2.2.2.2.2.2.2.2.2.2.2.2.2.1 x.2.2.2.2.2.2.2.2.2.2.2.2.2.2.2.2.2.2.2.2.2.2.2.2.2.1 x.2.2.2.2.2.2.2.2.2.2.2.2.2.2.2.2.2.2.2.2.2.2.2.2.2.2.1 x.2.2.2.2.2.2.2.2.2.2.2.2.2.2.2.2.2.2.2.2.2.2.2.2.2.2.2.1 x.2.2.2.2.2.2.2.2.2.2.2.2.2.2.2.2.2.2.2.2.2.2.2.2.2.2.2.2.1 x.2.2.2.2.2.2.2.2.2.2.2.2.2.2.2.2.2.2.2.2.2.2.2.2.2.2.2.2.2 m_primes_count m_primes_primeA m_primes_primeB m_primes_found_a m_primes_found_b m_rings_foundA m_rings_foundB m_rings_all m_rings_mostOfOneRow m_letters_count m_letters_bytes m_one_a m_one_b m_two_a m_two_b m_three_a m_three_b m_four_a m_four_b m_out_a m_out_b m_spare_a m_spare_b m_marks) x.1 := by
  refine kx_ofMZ RX10 rfl (plainFor_of_name (x := yX10_isPrimeNumber) kpn_X10) rfl ?_
  intro E A H ls _ C X R hl
  have hl : lv_has ls 2 [(0, .ref (h 0)), (1, .ref (h 45))] := hl
  rw [f_X10_isPrimeNumber] at hf
  refine x_aload_n 1 C dX10_isPrimeNumber_0 hl 1 rfl rfl ?_
  obtain ⟨y1, hy1, hf⟩ := kx_bind hf
  refine x_callVi 4 C dX10_isPrimeNumber_1 X hl kl_X10_170 (c_X5_isNought E.2.1 D T (h 45)  m_one_a m_one_b y1 hy1) rfl rfl [] rfl rfl rfl rfl rfl cb_12 rfl (fun H locs X => ?_)
  refine x_if_eq 9 7 C dX10_isPrimeNumber_4 rfl rfl hf (fun hf => ?_) (fun hf => ?_)
  · refine x_aload_n 10 C dX10_isPrimeNumber_9 hl 0 rfl rfl ?_
    refine x_get 13 C dX10_isPrimeNumber_10 X kf_X10_42 0 rfl rfl rfl ?_
    refine x_aload_n 14 C dX10_isPrimeNumber_13 hl 1 rfl rfl ?_
    obtain ⟨y14, hy14, hf⟩ := kx_bind hf
    refine x_callVv 17 C dX10_isPrimeNumber_14 X hl kl_X10_228 (c_X2_spell E.2.1 D T (h 21) (h 22) (h 23) (h 24) (h 25) (h 26) (h 27) (h 28) (h 29) (h 30) (h 31) (h 32) (h 33) (h 34) (h 35) (h 36) (h 37) (h 45) N  m_factors_count m_factors_threes m_factors_unit m_factors_primeA m_factors_primeB m_factors_norms m_factors_euclid_count m_factors_euclid_last_a m_factors_euclid_last_b m_factors_euclid_lastOfFirst_a m_factors_euclid_lastOfFirst_b m_factors_euclid_lastOfSecond_a m_factors_euclid_lastOfSecond_b m_factors_euclid_next_a m_factors_euclid_next_b m_factors_euclid_nextOfFirst_a m_factors_euclid_nextOfFirst_b m_factors_euclid_nextOfSecond_a m_factors_euclid_nextOfSecond_b m_factors_euclid_q_a m_factors_euclid_q_b m_factors_euclid_quotientA m_factors_euclid_quotientB m_factors_left_a m_factors_left_b m_factors_found_a m_factors_found_b m_factors_product_a m_factors_product_b m_one_a m_one_b y14 hy14) rfl rfl [] rfl rfl rfl rfl rfl cb_16 rfl (fun H locs X => ?_)
    refine x_aload_n 18 C dX10_isPrimeNumber_17 hl 0 rfl rfl ?_
    refine x_get 21 C dX10_isPrimeNumber_18 X kf_X10_42 0 rfl rfl rfl ?_
    obtain ⟨y21, hy21, hf⟩ := kx_bind hf
    refine x_callVi 24 C dX10_isPrimeNumber_21 X hl kl_X10_466 (c_X2_total E.2.1 D T (h 21) (h 22) (h 23) (h 24) (h 25) (h 35) (h 36) (h 37)  y14.1 y14.2.1 y14.2.2.1 y21 hy21) rfl rfl [] rfl rfl rfl rfl rfl cb_17 rfl (fun H locs X => ?_)
    refine x_iconst 25 C dX10_isPrimeNumber_24 (1 : Int32) kv_iconst_1 rfl ?_
    refine x_icmp_ne 32 28 C dX10_isPrimeNumber_25 rfl rfl hf (fun hf => ?_) (fun hf => ?_)
    · refine x_iconst 33 C dX10_isPrimeNumber_32 (0 : Int32) kv_iconst_0 rfl ?_
      obtain rfl := Option.some.inj hf
      exact R _ _ _ _ X kb_0 dX10_isPrimeNumber_33
    refine x_iconst 29 C dX10_isPrimeNumber_28 (1 : Int32) kv_iconst_1 rfl ?_
    refine x_goto 33 C dX10_isPrimeNumber_29 rfl ?_
    obtain rfl := Option.some.inj hf
    exact R _ _ _ _ X kb_1 dX10_isPrimeNumber_33
  refine x_iconst 8 C dX10_isPrimeNumber_7 (0 : Int32) kv_iconst_0 rfl ?_
  obtain rfl := Option.some.inj hf
  exact R _ _ _ _ X kb_0 dX10_isPrimeNumber_8
set_option maxHeartbeats 4000000 in
set_option maxRecDepth 100000 in
theorem c_X5_isSame_ (l : Launch) (D : va_G) (T : KT) (h0 : Nat) (v1 v3 : Int64) (m_a m_b : Int64) (x : Int32) (hf : f_X5_isSame_ v1 v3 m_a m_b = some x) : kx_MI l yX5_isSame_ cX5_isSame_ 5 (some .boolean) 0 0 D T [.ref h0, .long v1, .long v3] (w7_X5 T h0 m_a m_b) (w7_X5 T h0 m_a m_b) x := by
  refine kx_ofMZ RX5 rfl (plainFor_of_name (x := yX5_isSame_) kpn_X5) rfl ?_
  intro E A H ls _ C X R hl
  have hl : lv_has ls 5 [(0, .ref h0), (1, .long v1), (3, .long v3)] := hl
  rw [f_X5_isSame_] at hf
  refine x_aload_n 1 C dX5_isSame__0 hl 0 rfl rfl ?_
  refine x_get 4 C dX5_isSame__1 X kf_X5_9 0 rfl rfl rfl ?_
  refine x_lload_n 5 C dX5_isSame__4 hl 1 rfl rfl ?_
  refine x_lcmp_ne 22 6 9 C dX5_isSame__5 dX5_isSame__6 rfl rfl rfl hf (fun hf => ?_) (fun hf => ?_)
  · refine x_iconst 23 C dX5_isSame__22 (0 : Int32) kv_iconst_0 rfl ?_
    obtain rfl := Option.some.inj hf
    exact R _ _ _ _ X kb_0 dX5_isSame__23
  refine x_aload_n 10 C dX5_isSame__9 hl 0 rfl rfl ?_
  refine x_get 13 C dX5_isSame__10 X kf_X5_15 0 rfl rfl rfl ?_
  refine x_lload_n 14 C dX5_isSame__13 hl 2 rfl rfl ?_
  refine x_lcmp_ne 22 15 18 C dX5_isSame__14 dX5_isSame__15 rfl rfl rfl hf (fun hf => ?_) (fun hf => ?_)
  · refine x_iconst 23 C dX5_isSame__22 (0 : Int32) kv_iconst_0 rfl ?_
    obtain rfl := Option.some.inj hf
    exact R _ _ _ _ X kb_0 dX5_isSame__23
  refine x_iconst 19 C dX5_isSame__18 (1 : Int32) kv_iconst_1 rfl ?_
  refine x_goto 23 C dX5_isSame__19 rfl ?_
  obtain rfl := Option.some.inj hf
  exact R _ _ _ _ X kb_1 dX5_isSame__23
set_option maxHeartbeats 4000000 in
set_option maxRecDepth 100000 in
theorem c_X5_isUnit (l : Launch) (D : va_G) (T : KT) (h0 : Nat)  (m_a m_b : Int64) (x : Int32) (hf : f_X5_isUnit m_a m_b = some x) : kx_MI l yX5_isUnit cX5_isUnit 1 (some .boolean) 1 20 D T [.ref h0] (w7_X5 T h0 m_a m_b) (w7_X5 T h0 m_a m_b) x := by
  refine kx_ofMZ RX5 rfl (plainFor_of_name (x := yX5_isUnit) kpn_X5) rfl ?_
  intro E A H ls _ C X R hl
  have hl : lv_has ls 1 [(0, .ref h0)] := hl
  rw [f_X5_isUnit] at hf
  refine x_aload_n 1 C dX5_isUnit_0 hl 0 rfl rfl ?_
  obtain ⟨y1, hy1, hf⟩ := kx_bind hf
  refine x_callVl0 4 C dX5_isUnit_1 X hl kl_X5_22 (c_X5_norm E.2.1 D T h0  m_a m_b y1 hy1) rfl rfl [] rfl rfl rfl rfl rfl rfl (fun H locs X => ?_)
  refine x_lconst 5 C dX5_isUnit_4 (1 : Int64) kv_lconst_1 rfl ?_
  refine x_lcmp_ne 13 6 9 C dX5_isUnit_5 dX5_isUnit_6 rfl rfl rfl hf (fun hf => ?_) (fun hf => ?_)
  · refine x_iconst 14 C dX5_isUnit_13 (0 : Int32) kv_iconst_0 rfl ?_
    obtain rfl := Option.some.inj hf
    exact R _ _ _ _ X kb_0 dX5_isUnit_14
  refine x_iconst 10 C dX5_isUnit_9 (1 : Int32) kv_iconst_1 rfl ?_
  refine x_goto 14 C dX5_isUnit_10 rfl ?_
  obtain rfl := Option.some.inj hf
  exact R _ _ _ _ X kb_1 dX5_isUnit_14
set_option maxHeartbeats 4000000 in
set_option maxRecDepth 100000 in
theorem w_X5_unitNumber_16 {E : KE} {A : Nat → Prop} {D : va_G} {T : KT} (h0 : Nat) (C : kx_C E cX5_unitNumber 8 (some .int) RX5 2 40 D T) (N : Nat) (x : Int32) (m_a m_b : Int64) (R : kx_RI E cX5_unitNumber D A (w7_X5 T h0 m_a m_b) x) : ∀ (k : Nat), ∀  (v1 v3 : Int64) (v5 : Int32) (H : Heap) (locs : List Loc) (ls : Array Slot), kx_H E D A H locs (w7_X5 T h0 m_a m_b) → lv_has ls 8 [(0, .ref h0), (1, .long v1), (3, .long v3), (5, .int v5)] → f_X5_unitNumber_16 N k v1 v3 v5 m_a m_b = some x → kx_W E H locs 16 ls [] := by
  intro k
  induction k with
  | zero =>
    intro v1 v3 v5 H locs ls X hl hf
    cases (show (none : Option (Int32)) = some x from hf)
  | succ k ih =>
    intro v1 v3 v5 H locs ls X hl hf
    rw [f_X5_unitNumber_16] at hf
    refine x_iload 18 C dX5_unitNumber_16 hl 3 rfl rfl ?_
    refine x_bipush 20 C dX5_unitNumber_18 (6 : Int32) kv_bipush_6 rfl ?_
    refine x_icmp_ge 51 23 C dX5_unitNumber_20 rfl rfl hf (fun hf => ?_) (fun hf => ?_)
    · refine x_iconst 52 C dX5_unitNumber_51 (-1 : Int32) kv_iconst_m1 rfl ?_
      obtain rfl := Option.some.inj hf
      exact R _ _ _ _ X dX5_unitNumber_52
    refine x_aload_n 24 C dX5_unitNumber_23 hl 0 rfl rfl ?_
    refine x_lload_n 25 C dX5_unitNumber_24 hl 1 rfl rfl ?_
    refine x_lload_n 26 C dX5_unitNumber_25 hl 2 rfl rfl ?_
    obtain ⟨y26, hy26, hf⟩ := kx_bind hf
    refine x_callVi0 29 C dX5_unitNumber_26 X hl kl_X5_51 (c_X5_isSame_ E.2.1 D T h0 v1 v3 m_a m_b y26 hy26) rfl rfl [] rfl rfl rfl rfl rfl rfl (fun H locs X => ?_)
    refine x_if_eq 35 32 C dX5_unitNumber_29 rfl rfl hf (fun hf => ?_) (fun hf => ?_)
    · refine x_lload_n 36 C dX5_unitNumber_35 hl 1 rfl rfl ?_
      refine x_lstore 38 C dX5_unitNumber_36 [(6, .long v1), (0, .ref h0), (1, .long v1), (3, .long v3), (5, .int v5)] hl rfl rfl rfl (fun ls hl => ?_)
      refine x_lload_n 39 C dX5_unitNumber_38 hl 2 rfl rfl ?_
      refine x_lload_n 40 C dX5_unitNumber_39 hl 3 rfl rfl ?_
      refine x_lsub 41 C dX5_unitNumber_40 rfl ?_
      refine x_lstore_n 42 C dX5_unitNumber_41 [(1, .long (v1 - v3)), (6, .long v1), (0, .ref h0), (3, .long v3), (5, .int v5)] hl rfl rfl rfl (fun ls hl => ?_)
      refine x_lload 44 C dX5_unitNumber_42 hl 1 rfl rfl ?_
      refine x_lstore_n 45 C dX5_unitNumber_44 [(3, .long v1), (1, .long (v1 - v3)), (6, .long v1), (0, .ref h0), (5, .int v5)] hl rfl rfl rfl (fun ls hl => ?_)
      refine x_iinc 48 C dX5_unitNumber_45 (1 : Int32) kv_iconst_1 [(5, .int (v5 + (1 : Int32))), (3, .long v1), (1, .long (v1 - v3)), (6, .long v1), (0, .ref h0)] hl 4 rfl rfl rfl rfl (fun ls hl => ?_)
      refine x_goto 16 C dX5_unitNumber_48 rfl ?_
      exact ih (v1 - v3) v1 (v5 + (1 : Int32)) _ _ _ X (lv_sub hl [4, 2, 1, 0] rfl) hf
    refine x_iload 34 C dX5_unitNumber_32 hl 3 rfl rfl ?_
    obtain rfl := Option.some.inj hf
    exact R _ _ _ _ X dX5_unitNumber_34
set_option maxHeartbeats 4000000 in
set_option maxRecDepth 100000 in
theorem c_X5_unitNumber (l : Launch) (D : va_G) (T : KT) (h0 : Nat) (N : Nat)  (m_a m_b : Int64) (x : Int32) (hf : f_X5_unitNumber N m_a m_b = some x) : kx_MI l yX5_unitNumber cX5_unitNumber 8 (some .int) 2 40 D T [.ref h0] (w7_X5 T h0 m_a m_b) (w7_X5 T h0 m_a m_b) x := by
  refine kx_ofMI RX5 rfl (plainFor_of_name (x := yX5_unitNumber) kpn_X5) rfl ?_
  intro E A H ls _ C X R hl
  have hl : lv_has ls 8 [(0, .ref h0)] := hl
  rw [f_X5_unitNumber] at hf
  refine x_aload_n 1 C dX5_unitNumber_0 hl 0 rfl rfl ?_
  obtain ⟨y1, hy1, hf⟩ := kx_bind hf
  refine x_callVi0 4 C dX5_unitNumber_1 X hl kl_X5_48 (c_X5_isUnit E.2.1 D T h0  m_a m_b y1 hy1) rfl rfl [] rfl rfl rfl rfl rfl rfl (fun H locs X => ?_)
  refine x_if_ne 9 7 C dX5_unitNumber_4 rfl rfl hf (fun hf => ?_) (fun hf => ?_)
  · refine x_lconst 10 C dX5_unitNumber_9 (1 : Int64) kv_lconst_1 rfl ?_
    refine x_lstore_n 11 C dX5_unitNumber_10 [(1, .long (1 : Int64)), (0, .ref h0)] hl rfl rfl rfl (fun ls hl => ?_)
    refine x_lconst 12 C dX5_unitNumber_11 (0 : Int64) kv_lconst_0 rfl ?_
    refine x_lstore_n 13 C dX5_unitNumber_12 [(3, .long (0 : Int64)), (1, .long (1 : Int64)), (0, .ref h0)] hl rfl rfl rfl (fun ls hl => ?_)
    refine x_iconst 14 C dX5_unitNumber_13 (0 : Int32) kv_iconst_0 rfl ?_
    refine x_istore 16 C dX5_unitNumber_14 [(5, .int (0 : Int32)), (3, .long (0 : Int64)), (1, .long (1 : Int64)), (0, .ref h0)] hl rfl rfl rfl (fun ls hl => ?_)
    exact w_X5_unitNumber_16 h0 C N x m_a m_b R  N (1 : Int64) (0 : Int64) (0 : Int32) _ _ _ X (lv_sub hl [3, 2, 1, 0] rfl) hf
  refine x_iconst 8 C dX5_unitNumber_7 (-1 : Int32) kv_iconst_m1 rfl ?_
  obtain rfl := Option.some.inj hf
  exact R _ _ _ _ X dX5_unitNumber_8
set_option maxHeartbeats 4000000 in
set_option maxRecDepth 100000 in
theorem c_X10_told (l : Launch) (D : va_G) (T : KT) (h : Nat → Nat) (N : Nat) (v1 v2 : Int32) (m_drawers_full m_drawers_kept : Int32) (m_drawers_partA m_drawers_partB m_drawers_keptA m_drawers_keptB m_drawers_keptFull : Nat → Int32) (m_tape_size m_tape_plain m_tape_omegas m_tape_end m_tape_place m_tape_plainTold m_tape_omegasTold : Int32) (m_tape_bytes : Nat → Int32) (m_euclid_count : Int32) (m_euclid_last_a m_euclid_last_b m_euclid_lastOfFirst_a m_euclid_lastOfFirst_b m_euclid_lastOfSecond_a m_euclid_lastOfSecond_b m_euclid_next_a m_euclid_next_b m_euclid_nextOfFirst_a m_euclid_nextOfFirst_b m_euclid_nextOfSecond_a m_euclid_nextOfSecond_b m_euclid_q_a m_euclid_q_b : Int64) (m_euclid_quotientA m_euclid_quotientB : Nat → Int64) (m_modulus_step m_modulus_width m_modulus_slant m_modulus_square_a m_modulus_square_b : Int64) (m_factors_count m_factors_threes m_factors_unit : Int32) (m_factors_primeA m_factors_primeB m_factors_norms : Nat → Int64) (m_factors_euclid_count : Int32) (m_factors_euclid_last_a m_factors_euclid_last_b m_factors_euclid_lastOfFirst_a m_factors_euclid_lastOfFirst_b m_factors_euclid_lastOfSecond_a m_factors_euclid_lastOfSecond_b m_factors_euclid_next_a m_factors_euclid_next_b m_factors_euclid_nextOfFirst_a m_factors_euclid_nextOfFirst_b m_factors_euclid_nextOfSecond_a m_factors_euclid_nextOfSecond_b m_factors_euclid_q_a m_factors_euclid_q_b : Int64) (m_factors_euclid_quotientA m_factors_euclid_quotientB : Nat → Int64) (m_factors_left_a m_factors_left_b m_factors_found_a m_factors_found_b m_factors_product_a m_factors_product_b : Int64) (m_primes_count : Int32) (m_primes_primeA m_primes_primeB : Nat → Int32) (m_primes_found_a m_primes_found_b : Int64) (m_rings_foundA m_rings_foundB m_rings_all m_rings_mostOfOneRow m_letters_count : Int32) (m_letters_bytes : Nat → Int32) (m_one_a m_one_b m_two_a m_two_b m_three_a m_three_b m_four_a m_four_b m_out_a m_out_b m_spare_a m_spare_b : Int64) (m_marks : Nat → Int32) (x : Int32 × Int32 × Int32 × Int32 × (Nat → Int64) × (Nat → Int64) × (Nat → Int64) × Int32 × Int64 × Int64 × Int64 × Int64 × Int64 × Int64 × Int64 × Int64 × Int64 × Int64 × Int64 × Int64 × Int64 × Int64 × (Nat → Int64) × (Nat → Int64) × Int64 × Int64 × Int64 × Int64 × Int64 × Int64 × Int64 × Int64) (hf : f_X10_told N v1 v2 m_drawers_full m_drawers_partA m_drawers_partB m_factors_count m_factors_threes m_factors_unit m_factors_primeA m_factors_primeB m_factors_norms m_factors_euclid_count m_factors_euclid_last_a m_factors_euclid_last_b m_factors_euclid_lastOfFirst_a m_factors_euclid_lastOfFirst_b m_factors_euclid_lastOfSecond_a m_factors_euclid_lastOfSecond_b m_factors_euclid_next_a m_factors_euclid_next_b m_factors_euclid_nextOfFirst_a m_factors_euclid_nextOfFirst_b m_factors_euclid_nextOfSecond_a m_factors_euclid_nextOfSecond_b m_factors_euclid_q_a m_factors_euclid_q_b m_factors_euclid_quotientA m_factors_euclid_quotientB m_factors_left_a m_factors_left_b m_factors_found_a m_factors_found_b m_factors_product_a m_factors_product_b m_one_a m_one_b = some x) : kx_MI l yX10_told cX10_told 3 (some .int) 7 167 D T [.ref (h 0), .int v1, .int v2] (wC T h m_drawers_full m_drawers_kept m_drawers_partA m_drawers_partB m_drawers_keptA m_drawers_keptB m_drawers_keptFull m_tape_size m_tape_plain m_tape_omegas m_tape_end m_tape_place m_tape_plainTold m_tape_omegasTold m_tape_bytes m_euclid_count m_euclid_last_a m_euclid_last_b m_euclid_lastOfFirst_a m_euclid_lastOfFirst_b m_euclid_lastOfSecond_a m_euclid_lastOfSecond_b m_euclid_next_a m_euclid_next_b m_euclid_nextOfFirst_a m_euclid_nextOfFirst_b m_euclid_nextOfSecond_a m_euclid_nextOfSecond_b m_euclid_q_a m_euclid_q_b m_euclid_quotientA m_euclid_quotientB m_modulus_step m_modulus_width m_modulus_slant m_modulus_square_a m_modulus_square_b m_factors_count m_factors_threes m_factors_unit m_factors_primeA m_factors_primeB m_factors_norms m_factors_euclid_count m_factors_euclid_last_a m_factors_euclid_last_b m_factors_euclid_lastOfFirst_a m_factors_euclid_lastOfFirst_b m_factors_euclid_lastOfSecond_a m_factors_euclid_lastOfSecond_b m_factors_euclid_next_a m_factors_euclid_next_b m_factors_euclid_nextOfFirst_a m_factors_euclid_nextOfFirst_b m_factors_euclid_nextOfSecond_a m_factors_euclid_nextOfSecond_b m_factors_euclid_q_a m_factors_euclid_q_b m_factors_euclid_quotientA m_factors_euclid_quotientB m_factors_left_a m_factors_left_b m_factors_found_a m_factors_found_b m_factors_product_a m_factors_product_b m_primes_count m_primes_primeA m_primes_primeB m_primes_found_a m_primes_found_b m_rings_foundA m_rings_foundB m_rings_all m_rings_mostOfOneRow m_letters_count m_letters_bytes m_one_a m_one_b m_two_a m_two_b m_three_a m_three_b m_four_a m_four_b m_out_a m_out_b m_spare_a m_spare_b m_marks) (wC T h m_drawers_full m_drawers_kept m_drawers_partA m_drawers_partB m_drawers_keptA m_drawers_keptB m_drawers_keptFull m_tape_size m_tape_plain m_tape_omegas m_tape_end m_tape_place m_tape_plainTold m_tape_omegasTold m_tape_bytes m_euclid_count m_euclid_last_a m_euclid_last_b m_euclid_lastOfFirst_a m_euclid_lastOfFirst_b m_euclid_lastOfSecond_a m_euclid_lastOfSecond_b m_euclid_next_a m_euclid_next_b m_euclid_nextOfFirst_a m_euclid_nextOfFirst_b m_euclid_nextOfSecond_a m_euclid_nextOfSecond_b m_euclid_q_a m_euclid_q_b m_euclid_quotientA m_euclid_quotientB m_modulus_step m_modulus_width m_modulus_slant m_modulus_square_a m_modulus_square_b x.2.1 x.2.2.1 x.2.2.2.1 x.2.2.2.2.1 x.2.2.2.2.2.1 x.2.2.2.2.2.2.1 x.2.2.2.2.2.2.2.1 x.2.2.2.2.2.2.2.2.1 x.2.2.2.2.2.2.2.2.2.1 x.2.2.2.2.2.2.2.2.2.2.1 x.2.2.2.2.2.2.2.2.2.2.2.1 x.2.2.2.2.2.2.2.2.2.2.2.2.1 x.2.2.2.2.2.2.2.2.2.2.2.2.2.1 x.2.2.2.2.2.2.2.2.2.2.2.2.2.2.1 x.2.2.2.2.2.2.2.2.2.2.2.2.2.2.2.1 x.2.2.2.2.2.2.2.2.2.2.2.2.2.2.2.2.1 x.2.2.2.2.2.2.2.2.2.2.2.2.2.2.2.2.2.1 x.2.2.2.2.2.2.2.2.2.2.2.2.2.2.2.2.2.2.1 x.2.2.2.2.2.2.2.2.2.2.2.2.2.2.2.2.2.2.2.1 x.2.2.2.2.2.2.2.2.2.2.2.2.2.2.2.2.2.2.2.2.1 x.2.2.2.2.2.2.2.2.2.2.2.2.2.2.2.2.2.2.2.2.2.1 x.2.2.2.2.2.2.2.2.2.2.2.2.2.2.2.2.2.2.2.2.2.2.1 x.2.2.2.2.2.2.2.2.2.2.2.2.2.2.2.2.2.2.2.2.2.2.2.1 x.2.2.2.2.2.2.2.2.2.2.2.2.2.2.2.2.2.2.2.2.2.2.2.2.1 x.2.2.2.2.2.2.2.2.2.2.2.2.2.2.2.2.2.2.2.2.2.2.2.2.2.1 x.2.2.2.2.2.2.2.2.2.2.2.2.2.2.2.2.2.2.2.2.2.2.2.2.2.2.1 x.2.2.2.2.2.2.2.2.2.2.2.2.2.2.2.2.2.2.2.2.2.2.2.2.2.2.2.1 x.2.2.2.2.2.2.2.2.2.2.2.2.2.2.2.2.2.2.2.2.2.2.2.2.2.2.2.2.1 x.2.2.2.2.2.2.2.2.2.2.2.2.2.2.2.2.2.2.2.2.2.2.2.2.2.2.2.2.2.1 m_primes_count m_primes_primeA m_primes_primeB m_primes_found_a m_primes_found_b m_rings_foundA m_rings_foundB m_rings_all m_rings_mostOfOneRow m_letters_count m_letters_bytes x.2.2.2.2.2.2.2.2.2.2.2.2.2.2.2.2.2.2.2.2.2.2.2.2.2.2.2.2.2.2.1 x.2.2.2.2.2.2.2.2.2.2.2.2.2.2.2.2.2.2.2.2.2.2.2.2.2.2.2.2.2.2.2 m_two_a m_two_b m_three_a m_three_b m_four_a m_four_b m_out_a m_out_b m_spare_a m_spare_b m_marks) x.1 := by
  refine kx_ofMI RX10 rfl (plainFor_of_name (x := yX10_told) kpn_X10) rfl ?_
  intro E A H ls _ C X R hl
  have hl : lv_has ls 3 [(0, .ref (h 0)), (1, .int v1), (2, .int v2)] := hl
  rw [f_X10_told] at hf
  refine x_aload_n 1 C dX10_told_0 hl 0 rfl rfl ?_
  refine x_get 4 C dX10_told_1 X kf_X10_12 0 rfl rfl rfl ?_
  refine x_iload_n 5 C dX10_told_4 hl 1 rfl rfl ?_
  obtain ⟨y5, hy5, hf⟩ := kx_bind hf
  refine x_callVi 8 C dX10_told_5 X hl kl_X10_130 (c_X0_has E.2.1 D T (h 1) (h 2) (h 3) (h 4) (h 5) (h 6) v1 m_drawers_full m_drawers_kept y5 hy5) rfl rfl [] rfl rfl rfl rfl rfl cb_9 rfl (fun H locs X => ?_)
  refine x_if_eq 21 11 C dX10_told_8 rfl rfl hf (fun hf => ?_) (fun hf => ?_)
  · refine x_ldc 23 C dX10_told_21 (-2147483648 : Int32) kc_X10_140 rfl ?_
    obtain rfl := Option.some.inj hf
    exact R _ _ _ _ X dX10_told_23
  refine x_iload_n 12 C dX10_told_11 hl 2 rfl rfl ?_
  refine x_if_lt 21 15 C dX10_told_12 rfl rfl hf (fun hf => ?_) (fun hf => ?_)
  · refine x_ldc 23 C dX10_told_21 (-2147483648 : Int32) kc_X10_140 rfl ?_
    obtain rfl := Option.some.inj hf
    exact R _ _ _ _ X dX10_told_23
  refine x_iload_n 16 C dX10_told_15 hl 2 rfl rfl ?_
  refine x_bipush 18 C dX10_told_16 (7 : Int32) kv_bipush_7 rfl ?_
  refine x_icmp_le 24 21 C dX10_told_18 rfl rfl hf (fun hf => ?_) (fun hf => ?_)
  · refine x_aload_n 25 C dX10_told_24 hl 0 rfl rfl ?_
    refine x_get 28 C dX10_told_25 X kf_X10_12 0 rfl rfl rfl ?_
    refine x_iload_n 29 C dX10_told_28 hl 1 rfl rfl ?_
    refine x_aload_n 30 C dX10_told_29 hl 0 rfl rfl ?_
    refine x_get 33 C dX10_told_30 X kf_X10_70 0 rfl rfl rfl ?_
    obtain ⟨y33, hy33, hf⟩ := kx_bind hf
    refine x_callVv 36 C dX10_told_33 X hl kl_X10_141 (c_X0_load E.2.1 D T (h 1) (h 2) (h 3) (h 4) (h 5) (h 6) (h 45) v1 m_drawers_full m_drawers_kept m_drawers_partA m_drawers_partB m_one_a m_one_b y33 hy33) rfl rfl [] rfl rfl rfl rfl rfl cb_11 rfl (fun H locs X => ?_)
    refine x_iload_n 37 C dX10_told_36 hl 2 rfl rfl ?_
    refine kx_sw hf (fun hs0 hf => ?_) (fun hs0 hf => ?_)
    · refine x_table (off := 43) 80 C dX10_told_37 (0 : Int32) hs0 (by decide) (by decide) (by decide) rfl ?_
      refine x_aload_n 81 C dX10_told_80 hl 0 rfl rfl ?_
      refine x_get 84 C dX10_told_81 X kf_X10_70 0 rfl rfl rfl ?_
      refine x_get 87 C dX10_told_84 X kf_X10_145 45 rfl rfl rfl ?_
      refine x_l2i 88 C dX10_told_87 rfl ?_
      obtain rfl := Option.some.inj hf
      exact R _ _ _ _ X dX10_told_88
    refine kx_sw hf (fun hs1 hf => ?_) (fun hs1 hf => ?_)
    · refine x_table (off := 52) 89 C dX10_told_37 (1 : Int32) hs1 (by decide) (by decide) (by decide) rfl ?_
      refine x_aload_n 90 C dX10_told_89 hl 0 rfl rfl ?_
      refine x_get 93 C dX10_told_90 X kf_X10_70 0 rfl rfl rfl ?_
      refine x_get 96 C dX10_told_93 X kf_X10_149 45 rfl rfl rfl ?_
      refine x_l2i 97 C dX10_told_96 rfl ?_
      obtain rfl := Option.some.inj hf
      exact R _ _ _ _ X dX10_told_97
    refine kx_sw hf (fun hs2 hf => ?_) (fun hs2 hf => ?_)
    · refine x_table (off := 61) 98 C dX10_told_37 (2 : Int32) hs2 (by decide) (by decide) (by decide) rfl ?_
      refine x_aload_n 99 C dX10_told_98 hl 0 rfl rfl ?_
      refine x_get 102 C dX10_told_99 X kf_X10_70 0 rfl rfl rfl ?_
      obtain ⟨y102, hy102, hf⟩ := kx_bind hf
      refine x_callVl 105 C dX10_told_102 X hl kl_X10_152 (c_X5_norm E.2.1 D T (h 45)  y33.1 y33.2 y102 hy102) rfl rfl [] rfl rfl rfl rfl rfl cb_12 rfl (fun H locs X => ?_)
      refine x_l2i 106 C dX10_told_105 rfl ?_
      obtain rfl := Option.some.inj hf
      exact R _ _ _ _ X dX10_told_106
    refine kx_sw hf (fun hs3 hf => ?_) (fun hs3 hf => ?_)
    · refine x_table (off := 70) 107 C dX10_told_37 (3 : Int32) hs3 (by decide) (by decide) (by decide) rfl ?_
      refine x_aload_n 108 C dX10_told_107 hl 0 rfl rfl ?_
      refine x_get 111 C dX10_told_108 X kf_X10_70 0 rfl rfl rfl ?_
      obtain ⟨y111, hy111, hf⟩ := kx_bind hf
      refine x_callVi 114 C dX10_told_111 X hl kl_X10_156 (c_X5_isOfThree E.2.1 D T (h 45)  y33.1 y33.2 y111 hy111) rfl rfl [] rfl rfl rfl rfl rfl cb_12 rfl (fun H locs X => ?_)
      obtain ⟨y114, hy114, hf⟩ := kx_bind hf
      refine x_callSi 117 C dX10_told_114 X hl kl_X10_133 (c_X10_bit E.2.1 D T  y111  y114 hy114) [] rfl rfl rfl rfl rfl cb_2 rfl (fun H locs X => ?_)
      obtain rfl := Option.some.inj hf
      exact R _ _ _ _ X dX10_told_117
    refine kx_sw hf (fun hs4 hf => ?_) (fun hs4 hf => ?_)
    · refine x_table (off := 81) 118 C dX10_told_37 (4 : Int32) hs4 (by decide) (by decide) (by decide) rfl ?_
      refine x_aload_n 119 C dX10_told_118 hl 0 rfl rfl ?_
      refine x_get 122 C dX10_told_119 X kf_X10_70 0 rfl rfl rfl ?_
      obtain ⟨y122, hy122, hf⟩ := kx_bind hf
      refine x_callVi 125 C dX10_told_122 X hl kl_X10_159 (c_X5_isPrimary E.2.1 D T (h 45)  y33.1 y33.2 y122 hy122) rfl rfl [] rfl rfl rfl rfl rfl cb_12 rfl (fun H locs X => ?_)
      obtain ⟨y125, hy125, hf⟩ := kx_bind hf
      refine x_callSi 128 C dX10_told_125 X hl kl_X10_133 (c_X10_bit E.2.1 D T  y122  y125 hy125) [] rfl rfl rfl rfl rfl cb_2 rfl (fun H locs X => ?_)
      obtain rfl := Option.some.inj hf
      exact R _ _ _ _ X dX10_told_128
    refine kx_sw hf (fun hs5 hf => ?_) (fun hs5 hf => ?_)
    · refine x_table (off := 92) 129 C dX10_told_37 (5 : Int32) hs5 (by decide) (by decide) (by decide) rfl ?_
      refine x_aload_n 130 C dX10_told_129 hl 0 rfl rfl ?_
      refine x_aload_n 131 C dX10_told_130 hl 0 rfl rfl ?_
      refine x_get 134 C dX10_told_131 X kf_X10_70 0 rfl rfl rfl ?_
      obtain ⟨y134, hy134, hf⟩ := kx_bind hf
      refine x_callVi0 137 C dX10_told_134 X hl kl_X10_162 (c_X10_isPrimeNumber_p1_one E.2.1 D T h N  m_drawers_full m_drawers_kept m_drawers_partA m_drawers_partB m_drawers_keptA m_drawers_keptB m_drawers_keptFull m_tape_size m_tape_plain m_tape_omegas m_tape_end m_tape_place m_tape_plainTold m_tape_omegasTold m_tape_bytes m_euclid_count m_euclid_last_a m_euclid_last_b m_euclid_lastOfFirst_a m_euclid_lastOfFirst_b m_euclid_lastOfSecond_a m_euclid_lastOfSecond_b m_euclid_next_a m_euclid_next_b m_euclid_nextOfFirst_a m_euclid_nextOfFirst_b m_euclid_nextOfSecond_a m_euclid_nextOfSecond_b m_euclid_q_a m_euclid_q_b m_euclid_quotientA m_euclid_quotientB m_modulus_step m_modulus_width m_modulus_slant m_modulus_square_a m_modulus_square_b m_factors_count m_factors_threes m_factors_unit m_factors_primeA m_factors_primeB m_factors_norms m_factors_euclid_count m_factors_euclid_last_a m_factors_euclid_last_b m_factors_euclid_lastOfFirst_a m_factors_euclid_lastOfFirst_b m_factors_euclid_lastOfSecond_a m_factors_euclid_lastOfSecond_b m_factors_euclid_next_a m_factors_euclid_next_b m_factors_euclid_nextOfFirst_a m_factors_euclid_nextOfFirst_b m_factors_euclid_nextOfSecond_a m_factors_euclid_nextOfSecond_b m_factors_euclid_q_a m_factors_euclid_q_b m_factors_euclid_quotientA m_factors_euclid_quotientB m_factors_left_a m_factors_left_b m_factors_found_a m_factors_found_b m_factors_product_a m_factors_product_b m_primes_count m_primes_primeA m_primes_primeB m_primes_found_a m_primes_found_b m_rings_foundA m_rings_foundB m_rings_all m_rings_mostOfOneRow m_letters_count m_letters_bytes y33.1 y33.2 m_two_a m_two_b m_three_a m_three_b m_four_a m_four_b m_out_a m_out_b m_spare_a m_spare_b m_marks y134 hy134) rfl rfl [] rfl rfl rfl rfl rfl rfl (fun H locs X => ?_)
      obtain ⟨y137, hy137, hf⟩ := kx_bind hf
      refine x_callSi 140 C dX10_told_137 X hl kl_X10_133 (c_X10_bit E.2.1 D T  y134.1  y137 hy137) [] rfl rfl rfl rfl rfl cb_2 rfl (fun H locs X => ?_)
      obtain rfl := Option.some.inj hf
      exact R _ _ _ _ X dX10_told_140
    refine kx_sw hf (fun hs6 hf => ?_) (fun hs6 hf => ?_)
    · refine x_table (off := 104) 141 C dX10_told_37 (6 : Int32) hs6 (by decide) (by decide) (by decide) rfl ?_
      refine x_aload_n 142 C dX10_told_141 hl 0 rfl rfl ?_
      refine x_get 145 C dX10_told_142 X kf_X10_70 0 rfl rfl rfl ?_
      obtain ⟨y145, hy145, hf⟩ := kx_bind hf
      refine x_callVi 148 C dX10_told_145 X hl kl_X10_166 (c_X5_unitNumber E.2.1 D T (h 45) N  y33.1 y33.2 y145 hy145) rfl rfl [] rfl rfl rfl rfl rfl cb_12 rfl (fun H locs X => ?_)
      obtain rfl := Option.some.inj hf
      exact R _ _ _ _ X dX10_told_148
    refine x_tableOut 149 C dX10_told_37 (by have hn0 := lv_neT (a := 0) hs0 (by decide); have hn1 := lv_neT (a := 1) hs1 (by decide); have hn2 := lv_neT (a := 2) hs2 (by decide); have hn3 := lv_neT (a := 3) hs3 (by decide); have hn4 := lv_neT (a := 4) hs4 (by decide); have hn5 := lv_neT (a := 5) hs5 (by decide); have hn6 := lv_neT (a := 6) hs6 (by decide); omega) rfl ?_
    refine x_aload_n 150 C dX10_told_149 hl 0 rfl rfl ?_
    refine x_get 153 C dX10_told_150 X kf_X10_70 0 rfl rfl rfl ?_
    obtain ⟨y153, hy153, hf⟩ := kx_bind hf
    refine x_callVi 156 C dX10_told_153 X hl kl_X10_170 (c_X5_isNought E.2.1 D T (h 45)  y33.1 y33.2 y153 hy153) rfl rfl [] rfl rfl rfl rfl rfl cb_12 rfl (fun H locs X => ?_)
    refine x_if_eq 163 159 C dX10_told_156 rfl rfl hf (fun hf => ?_) (fun hf => ?_)
    · refine x_aload_n 164 C dX10_told_163 hl 0 rfl rfl ?_
      refine x_get 167 C dX10_told_164 X kf_X10_70 0 rfl rfl rfl ?_
      obtain ⟨y167, hy167, hf⟩ := kx_bind hf
      refine x_callVi 170 C dX10_told_167 X hl kl_X10_173 (c_X5_takeOutThrees E.2.1 D T (h 45) N  y33.1 y33.2 y167 hy167) rfl rfl [] rfl rfl rfl rfl rfl cb_12 rfl (fun H locs X => ?_)
      obtain rfl := Option.some.inj hf
      exact R _ _ _ _ X dX10_told_170
    refine x_iconst 160 C dX10_told_159 (-1 : Int32) kv_iconst_m1 rfl ?_
    refine x_goto 170 C dX10_told_160 rfl ?_
    obtain rfl := Option.some.inj hf
    exact R _ _ _ _ X dX10_told_170
  refine x_ldc 23 C dX10_told_21 (-2147483648 : Int32) kc_X10_140 rfl ?_
  obtain rfl := Option.some.inj hf
  exact R _ _ _ _ X dX10_told_23
set_option maxHeartbeats 4000000 in
set_option maxRecDepth 100000 in
theorem c_X11_norm (l : Launch) (D : va_G) (T : KT)  (v0 v2 : Int64)  (x : Int64) (hf : f_X11_norm v0 v2 = some x) : kx_ML l yX11_norm cX11_norm 4 (some .long) 0 0 D T [.long v0, .long v2] (w4_ T  ) (w4_ T  ) x := by
  refine kx_ofML RX11 rfl (plainFor_of_name (x := yX11_norm) kpn_X11) rfl ?_
  intro E A H ls _ C X R hl
  have hl : lv_has ls 4 [(0, .long v0), (2, .long v2)] := hl
  rw [f_X11_norm] at hf
  refine x_lload_n 1 C dX11_norm_0 hl 0 rfl rfl ?_
  refine x_lload_n 2 C dX11_norm_1 hl 0 rfl rfl ?_
  refine x_lmul 3 C dX11_norm_2 rfl ?_
  refine x_lload_n 4 C dX11_norm_3 hl 0 rfl rfl ?_
  refine x_lload_n 5 C dX11_norm_4 hl 1 rfl rfl ?_
  refine x_lmul 6 C dX11_norm_5 rfl ?_
  refine x_lsub 7 C dX11_norm_6 rfl ?_
  refine x_lload_n 8 C dX11_norm_7 hl 1 rfl rfl ?_
  refine x_lload_n 9 C dX11_norm_8 hl 1 rfl rfl ?_
  refine x_lmul 10 C dX11_norm_9 rfl ?_
  refine x_ladd 11 C dX11_norm_10 rfl ?_
  obtain rfl := Option.some.inj hf
  exact R _ _ _ _ X dX11_norm_11
set_option maxHeartbeats 4000000 in
set_option maxRecDepth 100000 in
theorem c_X11_normOf (l : Launch) (D : va_G) (T : KT)  (v0 v2 : Int64)  (x : Int32) (hf : f_X11_normOf v0 v2 = some x) : kx_MI l yX11_normOf cX11_normOf 4 (some .int) 1 23 D T [.long v0, .long v2] (w4_ T  ) (w4_ T  ) x := by
  refine kx_ofMI RX11 rfl (plainFor_of_name (x := yX11_normOf) kpn_X11) rfl ?_
  intro E A H ls _ C X R hl
  have hl : lv_has ls 4 [(0, .long v0), (2, .long v2)] := hl
  rw [f_X11_normOf] at hf
  refine x_lload_n 1 C dX11_normOf_0 hl 0 rfl rfl ?_
  refine x_lload_n 2 C dX11_normOf_1 hl 1 rfl rfl ?_
  obtain ⟨y2, hy2, hf⟩ := kx_bind hf
  refine x_callSl0 5 C dX11_normOf_2 X hl kl_X11_112 (c_X11_norm E.2.1 D T  v0 v2  y2 hy2) [] rfl rfl rfl rfl rfl rfl (fun H locs X => ?_)
  refine x_l2i 6 C dX11_normOf_5 rfl ?_
  obtain rfl := Option.some.inj hf
  exact R _ _ _ _ X dX11_normOf_6
set_option maxHeartbeats 4000000 in
set_option maxRecDepth 100000 in
theorem c_X11_isThree (l : Launch) (D : va_G) (T : KT)  (v0 v2 : Int64)  (x : Int32) (hf : f_X11_isThree v0 v2 = some x) : kx_MI l yX11_isThree cX11_isThree 4 (some .boolean) 0 0 D T [.long v0, .long v2] (w4_ T  ) (w4_ T  ) x := by
  refine kx_ofMZ RX11 rfl (plainFor_of_name (x := yX11_isThree) kpn_X11) rfl ?_
  intro E A H ls _ C X R hl
  have hl : lv_has ls 4 [(0, .long v0), (2, .long v2)] := hl
  rw [f_X11_isThree] at hf
  refine x_lload_n 1 C dX11_isThree_0 hl 0 rfl rfl ?_
  refine x_lload_n 2 C dX11_isThree_1 hl 1 rfl rfl ?_
  refine x_ladd 3 C dX11_isThree_2 rfl ?_
  refine x_ldc2_w 6 C dX11_isThree_3 (3 : Int64) kc_X11_134 rfl ?_
  refine x_lrem0 7 C dX11_isThree_6 kz_l_3 rfl ?_
  refine x_lconst 8 C dX11_isThree_7 (0 : Int64) kv_lconst_0 rfl ?_
  refine x_lcmp_ne 16 9 12 C dX11_isThree_8 dX11_isThree_9 rfl rfl rfl hf (fun hf => ?_) (fun hf => ?_)
  · refine x_iconst 17 C dX11_isThree_16 (0 : Int32) kv_iconst_0 rfl ?_
    obtain rfl := Option.some.inj hf
    exact R _ _ _ _ X kb_0 dX11_isThree_17
  refine x_iconst 13 C dX11_isThree_12 (1 : Int32) kv_iconst_1 rfl ?_
  refine x_goto 17 C dX11_isThree_13 rfl ?_
  obtain rfl := Option.some.inj hf
  exact R _ _ _ _ X kb_1 dX11_isThree_17
set_option maxHeartbeats 4000000 in
set_option maxRecDepth 100000 in
theorem w_X11_down_24 {E : KE} {A : Nat → Prop} {D : va_G} {T : KT}  (C : kx_C E cX11_down 6 (some .long) RX11 0 0 D T) (x : Int64)  (R : kx_RL E cX11_down D A (w4_ T  ) x) : ∀  (v2 v4 : Int64) (s0 : Int32) (H : Heap) (locs : List Loc) (ls : Array Slot), kx_H E D A H locs (w4_ T  ) → lv_has ls 6 [(2, .long v2), (4, .long v4)] → f_X11_down_24 v2 v4 s0 = some x → kx_W E H locs 24 ls [.int s0] := by
  intro v2 v4 s0 H locs ls X hl hf
  rw [f_X11_down_24] at hf
  refine x_lload_n 25 C dX11_down_24 hl 0 rfl rfl ?_
  refine x_lconst 26 C dX11_down_25 (0 : Int64) kv_lconst_0 rfl ?_
  refine x_lcmp_ge 34 27 30 C dX11_down_26 dX11_down_27 rfl rfl rfl hf (fun hf => ?_) (fun hf => ?_)
  · refine x_iconst 35 C dX11_down_34 (0 : Int32) kv_iconst_0 rfl ?_
    refine x_icmp_eq 45 38 C dX11_down_35 rfl rfl hf (fun hf => ?_) (fun hf => ?_)
    · refine x_lload 47 C dX11_down_45 hl 1 rfl rfl ?_
      obtain rfl := Option.some.inj hf
      exact R _ _ _ _ X dX11_down_47
    refine x_lload 40 C dX11_down_38 hl 1 rfl rfl ?_
    refine x_lconst 41 C dX11_down_40 (1 : Int64) kv_lconst_1 rfl ?_
    refine x_lsub 42 C dX11_down_41 rfl ?_
    refine x_goto 47 C dX11_down_42 rfl ?_
    obtain rfl := Option.some.inj hf
    exact R _ _ _ _ X dX11_down_47
  refine x_iconst 31 C dX11_down_30 (1 : Int32) kv_iconst_1 rfl ?_
  refine x_goto 35 C dX11_down_31 rfl ?_
  refine x_icmp_eq 45 38 C dX11_down_35 rfl rfl hf (fun hf => ?_) (fun hf => ?_)
  · refine x_lload 47 C dX11_down_45 hl 1 rfl rfl ?_
    obtain rfl := Option.some.inj hf
    exact R _ _ _ _ X dX11_down_47
  refine x_lload 40 C dX11_down_38 hl 1 rfl rfl ?_
  refine x_lconst 41 C dX11_down_40 (1 : Int64) kv_lconst_1 rfl ?_
  refine x_lsub 42 C dX11_down_41 rfl ?_
  refine x_goto 47 C dX11_down_42 rfl ?_
  obtain rfl := Option.some.inj hf
  exact R _ _ _ _ X dX11_down_47
set_option maxHeartbeats 4000000 in
set_option maxRecDepth 100000 in
theorem c_X11_down (l : Launch) (D : va_G) (T : KT)  (v0 v2 : Int64)  (x : Int64) (hf : f_X11_down v0 v2 = some x) : kx_ML l yX11_down cX11_down 6 (some .long) 0 0 D T [.long v0, .long v2] (w4_ T  ) (w4_ T  ) x := by
  refine kx_ofML RX11 rfl (plainFor_of_name (x := yX11_down) kpn_X11) rfl ?_
  intro E A H ls _ C X R hl
  have hl : lv_has ls 6 [(0, .long v0), (2, .long v2)] := hl
  rw [f_X11_down] at hf
  refine x_lload_n 1 C dX11_down_0 hl 0 rfl rfl ?_
  refine x_lload_n 2 C dX11_down_1 hl 1 rfl rfl ?_
  refine x_ldiv 3 C dX11_down_2 hf rfl (fun hf => ?_)
  refine x_lstore 5 C dX11_down_3 [(4, .long (v0 / v2)), (0, .long v0), (2, .long v2)] hl rfl rfl rfl (fun ls hl => ?_)
  refine x_lload_n 6 C dX11_down_5 hl 1 rfl rfl ?_
  refine x_lload_n 7 C dX11_down_6 hl 2 rfl rfl ?_
  refine x_lrem 8 C dX11_down_7 hf rfl (fun hf => ?_)
  refine x_lconst 9 C dX11_down_8 (0 : Int64) kv_lconst_0 rfl ?_
  refine x_lcmp_eq 45 10 13 C dX11_down_9 dX11_down_10 rfl rfl rfl hf (fun hf => ?_) (fun hf => ?_)
  · refine x_lload 47 C dX11_down_45 hl 0 rfl rfl ?_
    obtain rfl := Option.some.inj hf
    exact R _ _ _ _ X dX11_down_47
  refine x_lload_n 14 C dX11_down_13 hl 1 rfl rfl ?_
  refine x_lconst 15 C dX11_down_14 (0 : Int64) kv_lconst_0 rfl ?_
  refine x_lcmp_ge 23 16 19 C dX11_down_15 dX11_down_16 rfl rfl rfl hf (fun hf => ?_) (fun hf => ?_)
  · refine x_iconst 24 C dX11_down_23 (0 : Int32) kv_iconst_0 rfl ?_
    exact w_X11_down_24  C x  R  v2 (v0 / v2) (0 : Int32) _ _ _ X (lv_sub hl [2, 0] rfl) hf
  refine x_iconst 20 C dX11_down_19 (1 : Int32) kv_iconst_1 rfl ?_
  refine x_goto 24 C dX11_down_20 rfl ?_
  exact w_X11_down_24  C x  R  v2 (v0 / v2) (1 : Int32) _ _ _ X (lv_sub hl [2, 0] rfl) hf
set_option maxHeartbeats 4000000 in
set_option maxRecDepth 100000 in
theorem c_X11_rest (l : Launch) (D : va_G) (T : KT)  (v0 v2 : Int64)  (x : Int64) (hf : f_X11_rest v0 v2 = some x) : kx_ML l yX11_rest cX11_rest 4 (some .long) 1 25 D T [.long v0, .long v2] (w4_ T  ) (w4_ T  ) x := by
  refine kx_ofML RX11 rfl (plainFor_of_name (x := yX11_rest) kpn_X11) rfl ?_
  intro E A H ls _ C X R hl
  have hl : lv_has ls 4 [(0, .long v0), (2, .long v2)] := hl
  rw [f_X11_rest] at hf
  refine x_lload_n 1 C dX11_rest_0 hl 0 rfl rfl ?_
  refine x_lload_n 2 C dX11_rest_1 hl 0 rfl rfl ?_
  refine x_lload_n 3 C dX11_rest_2 hl 1 rfl rfl ?_
  obtain ⟨y3, hy3, hf⟩ := kx_bind hf
  refine x_callSl0 6 C dX11_rest_3 X hl kl_X11_63 (c_X11_down E.2.1 D T  v0 v2  y3 hy3) [.long v0] rfl rfl rfl rfl rfl rfl (fun H locs X => ?_)
  refine x_lload_n 7 C dX11_rest_6 hl 1 rfl rfl ?_
  refine x_lmul 8 C dX11_rest_7 rfl ?_
  refine x_lsub 9 C dX11_rest_8 rfl ?_
  obtain rfl := Option.some.inj hf
  exact R _ _ _ _ X dX11_rest_9
set_option maxHeartbeats 4000000 in
set_option maxRecDepth 100000 in
theorem c_X11_isPrimary (l : Launch) (D : va_G) (T : KT)  (v0 v2 : Int64)  (x : Int32) (hf : f_X11_isPrimary v0 v2 = some x) : kx_MI l yX11_isPrimary cX11_isPrimary 4 (some .boolean) 2 48 D T [.long v0, .long v2] (w4_ T  ) (w4_ T  ) x := by
  refine kx_ofMZ RX11 rfl (plainFor_of_name (x := yX11_isPrimary) kpn_X11) rfl ?_
  intro E A H ls _ C X R hl
  have hl : lv_has ls 4 [(0, .long v0), (2, .long v2)] := hl
  rw [f_X11_isPrimary] at hf
  refine x_lload_n 1 C dX11_isPrimary_0 hl 0 rfl rfl ?_
  refine x_ldc2_w 4 C dX11_isPrimary_1 (3 : Int64) kc_X11_134 rfl ?_
  obtain ⟨y4, hy4, hf⟩ := kx_bind hf
  refine x_callSl0 7 C dX11_isPrimary_4 X hl kl_X11_136 (c_X11_rest E.2.1 D T  v0 (3 : Int64)  y4 hy4) [] rfl rfl rfl rfl rfl rfl (fun H locs X => ?_)
  refine x_ldc2_w 10 C dX11_isPrimary_7 (2 : Int64) kc_X11_119 rfl ?_
  refine x_lcmp_ne 30 11 14 C dX11_isPrimary_10 dX11_isPrimary_11 rfl rfl rfl hf (fun hf => ?_) (fun hf => ?_)
  · refine x_iconst 31 C dX11_isPrimary_30 (0 : Int32) kv_iconst_0 rfl ?_
    obtain rfl := Option.some.inj hf
    exact R _ _ _ _ X kb_0 dX11_isPrimary_31
  refine x_lload_n 15 C dX11_isPrimary_14 hl 1 rfl rfl ?_
  refine x_ldc2_w 18 C dX11_isPrimary_15 (3 : Int64) kc_X11_134 rfl ?_
  obtain ⟨y18, hy18, hf⟩ := kx_bind hf
  refine x_callSl0 21 C dX11_isPrimary_18 X hl kl_X11_136 (c_X11_rest E.2.1 D T  v2 (3 : Int64)  y18 hy18) [] rfl rfl rfl rfl rfl rfl (fun H locs X => ?_)
  refine x_lconst 22 C dX11_isPrimary_21 (0 : Int64) kv_lconst_0 rfl ?_
  refine x_lcmp_ne 30 23 26 C dX11_isPrimary_22 dX11_isPrimary_23 rfl rfl rfl hf (fun hf => ?_) (fun hf => ?_)
  · refine x_iconst 31 C dX11_isPrimary_30 (0 : Int32) kv_iconst_0 rfl ?_
    obtain rfl := Option.some.inj hf
    exact R _ _ _ _ X kb_0 dX11_isPrimary_31
  refine x_iconst 27 C dX11_isPrimary_26 (1 : Int32) kv_iconst_1 rfl ?_
  refine x_goto 31 C dX11_isPrimary_27 rfl ?_
  obtain rfl := Option.some.inj hf
  exact R _ _ _ _ X kb_1 dX11_isPrimary_31
set_option maxHeartbeats 4000000 in
set_option maxRecDepth 100000 in
theorem w_X11_leastPart_2 {E : KE} {A : Nat → Prop} {D : va_G} {T : KT}  (C : kx_C E cX11_leastPart 2 (some .int) RX11 0 0 D T) (N : Nat) (x : Int32)  (R : kx_RI E cX11_leastPart D A (w4_ T  ) x) : ∀ (k : Nat), ∀  (v0 v1 : Int32) (H : Heap) (locs : List Loc) (ls : Array Slot), kx_H E D A H locs (w4_ T  ) → lv_has ls 2 [(0, .int v0), (1, .int v1)] → f_X11_leastPart_2 N k v0 v1 = some x → kx_W E H locs 2 ls [] := by
  intro k
  induction k with
  | zero =>
    intro v0 v1 H locs ls X hl hf
    cases (show (none : Option (Int32)) = some x from hf)
  | succ k ih =>
    intro v0 v1 H locs ls X hl hf
    rw [f_X11_leastPart_2] at hf
    refine x_iload_n 3 C dX11_leastPart_2 hl 1 rfl rfl ?_
    refine x_iload_n 4 C dX11_leastPart_3 hl 1 rfl rfl ?_
    refine x_imul 5 C dX11_leastPart_4 rfl ?_
    refine x_iload_n 6 C dX11_leastPart_5 hl 0 rfl rfl ?_
    refine x_icmp_gt 22 9 C dX11_leastPart_6 rfl rfl hf (fun hf => ?_) (fun hf => ?_)
    · refine x_iload_n 23 C dX11_leastPart_22 hl 1 rfl rfl ?_
      refine x_iload_n 24 C dX11_leastPart_23 hl 1 rfl rfl ?_
      refine x_imul 25 C dX11_leastPart_24 rfl ?_
      refine x_iload_n 26 C dX11_leastPart_25 hl 0 rfl rfl ?_
      refine x_icmp_gt 33 29 C dX11_leastPart_26 rfl rfl hf (fun hf => ?_) (fun hf => ?_)
      · refine x_iload_n 34 C dX11_leastPart_33 hl 0 rfl rfl ?_
        obtain rfl := Option.some.inj hf
        exact R _ _ _ _ X dX11_leastPart_34
      refine x_iload_n 30 C dX11_leastPart_29 hl 1 rfl rfl ?_
      refine x_goto 34 C dX11_leastPart_30 rfl ?_
      obtain rfl := Option.some.inj hf
      exact R _ _ _ _ X dX11_leastPart_34
    refine x_iload_n 10 C dX11_leastPart_9 hl 0 rfl rfl ?_
    refine x_iload_n 11 C dX11_leastPart_10 hl 1 rfl rfl ?_
    refine x_irem 12 C dX11_leastPart_11 hf rfl (fun hf => ?_)
    refine x_if_eq 22 15 C dX11_leastPart_12 rfl rfl hf (fun hf => ?_) (fun hf => ?_)
    · refine x_iload_n 23 C dX11_leastPart_22 hl 1 rfl rfl ?_
      refine x_iload_n 24 C dX11_leastPart_23 hl 1 rfl rfl ?_
      refine x_imul 25 C dX11_leastPart_24 rfl ?_
      refine x_iload_n 26 C dX11_leastPart_25 hl 0 rfl rfl ?_
      refine x_icmp_gt 33 29 C dX11_leastPart_26 rfl rfl hf (fun hf => ?_) (fun hf => ?_)
      · refine x_iload_n 34 C dX11_leastPart_33 hl 0 rfl rfl ?_
        obtain rfl := Option.some.inj hf
        exact R _ _ _ _ X dX11_leastPart_34
      refine x_iload_n 30 C dX11_leastPart_29 hl 1 rfl rfl ?_
      refine x_goto 34 C dX11_leastPart_30 rfl ?_
      obtain rfl := Option.some.inj hf
      exact R _ _ _ _ X dX11_leastPart_34
    refine x_iload_n 16 C dX11_leastPart_15 hl 1 rfl rfl ?_
    refine x_iconst 17 C dX11_leastPart_16 (1 : Int32) kv_iconst_1 rfl ?_
    refine x_iadd 18 C dX11_leastPart_17 rfl ?_
    refine x_istore_n 19 C dX11_leastPart_18 [(1, .int (v1 + (1 : Int32))), (0, .int v0)] hl rfl rfl rfl (fun ls hl => ?_)
    refine x_goto 2 C dX11_leastPart_19 rfl ?_
    exact ih v0 (v1 + (1 : Int32)) _ _ _ X (lv_sub hl [1, 0] rfl) hf
set_option maxHeartbeats 4000000 in
set_option maxRecDepth 100000 in
theorem c_X11_leastPart (l : Launch) (D : va_G) (T : KT)  (N : Nat) (v0 : Int32)  (x : Int32) (hf : f_X11_leastPart N v0 = some x) : kx_MI l yX11_leastPart cX11_leastPart 2 (some .int) 0 0 D T [.int v0] (w4_ T  ) (w4_ T  ) x := by
  refine kx_ofMI RX11 rfl (plainFor_of_name (x := yX11_leastPart) kpn_X11) rfl ?_
  intro E A H ls _ C X R hl
  have hl : lv_has ls 2 [(0, .int v0)] := hl
  rw [f_X11_leastPart] at hf
  refine x_iconst 1 C dX11_leastPart_0 (2 : Int32) kv_iconst_2 rfl ?_
  refine x_istore_n 2 C dX11_leastPart_1 [(1, .int (2 : Int32)), (0, .int v0)] hl rfl rfl rfl (fun ls hl => ?_)
  exact w_X11_leastPart_2  C N x  R  N v0 (2 : Int32) _ _ _ X (lv_sub hl [1, 0] rfl) hf
set_option maxHeartbeats 4000000 in
set_option maxRecDepth 100000 in
theorem c_X11_isPrime (l : Launch) (D : va_G) (T : KT)  (N : Nat) (v0 v2 : Int64)  (x : Int32) (hf : f_X11_isPrime N v0 v2 = some x) : kx_MI l yX11_isPrime cX11_isPrime 6 (some .boolean) 2 46 D T [.long v0, .long v2] (w4_ T  ) (w4_ T  ) x := by
  refine kx_ofMZ RX11 rfl (plainFor_of_name (x := yX11_isPrime) kpn_X11) rfl ?_
  intro E A H ls _ C X R hl
  have hl : lv_has ls 6 [(0, .long v0), (2, .long v2)] := hl
  rw [f_X11_isPrime] at hf
  refine x_lload_n 1 C dX11_isPrime_0 hl 0 rfl rfl ?_
  refine x_lload_n 2 C dX11_isPrime_1 hl 1 rfl rfl ?_
  obtain ⟨y2, hy2, hf⟩ := kx_bind hf
  refine x_callSi0 5 C dX11_isPrime_2 X hl kl_X11_160 (c_X11_normOf E.2.1 D T  v0 v2  y2 hy2) [] rfl rfl rfl rfl rfl rfl (fun H locs X => ?_)
  refine x_istore 7 C dX11_isPrime_5 [(4, .int y2), (0, .long v0), (2, .long v2)] hl rfl rfl rfl (fun ls hl => ?_)
  refine x_iload 9 C dX11_isPrime_7 hl 0 rfl rfl ?_
  refine x_iconst 10 C dX11_isPrime_9 (2 : Int32) kv_iconst_2 rfl ?_
  refine x_icmp_ge 15 13 C dX11_isPrime_10 rfl rfl hf (fun hf => ?_) (fun hf => ?_)
  · refine x_iload 17 C dX11_isPrime_15 hl 0 rfl rfl ?_
    obtain ⟨y17, hy17, hf⟩ := kx_bind hf
    refine x_callSi0 20 C dX11_isPrime_17 X hl kl_X11_156 (c_X11_leastPart E.2.1 D T  N y2  y17 hy17) [] rfl rfl rfl rfl rfl rfl (fun H locs X => ?_)
    refine x_istore 22 C dX11_isPrime_20 [(5, .int y17), (4, .int y2), (0, .long v0), (2, .long v2)] hl rfl rfl rfl (fun ls hl => ?_)
    refine x_iload 24 C dX11_isPrime_22 hl 0 rfl rfl ?_
    refine x_iload 26 C dX11_isPrime_24 hl 1 rfl rfl ?_
    refine x_icmp_eq 47 29 C dX11_isPrime_26 rfl rfl hf (fun hf => ?_) (fun hf => ?_)
    · refine x_iconst 48 C dX11_isPrime_47 (1 : Int32) kv_iconst_1 rfl ?_
      refine x_goto 52 C dX11_isPrime_48 rfl ?_
      obtain rfl := Option.some.inj hf
      exact R _ _ _ _ X kb_1 dX11_isPrime_52
    refine x_iload 31 C dX11_isPrime_29 hl 0 rfl rfl ?_
    refine x_iload 33 C dX11_isPrime_31 hl 0 rfl rfl ?_
    refine x_imul 34 C dX11_isPrime_33 rfl ?_
    refine x_iload 36 C dX11_isPrime_34 hl 1 rfl rfl ?_
    refine x_icmp_ne 51 39 C dX11_isPrime_36 rfl rfl hf (fun hf => ?_) (fun hf => ?_)
    · refine x_iconst 52 C dX11_isPrime_51 (0 : Int32) kv_iconst_0 rfl ?_
      obtain rfl := Option.some.inj hf
      exact R _ _ _ _ X kb_0 dX11_isPrime_52
    refine x_iload 41 C dX11_isPrime_39 hl 0 rfl rfl ?_
    refine x_iconst 42 C dX11_isPrime_41 (3 : Int32) kv_iconst_3 rfl ?_
    refine x_irem0 43 C dX11_isPrime_42 kz_i_3 rfl ?_
    refine x_iconst 44 C dX11_isPrime_43 (2 : Int32) kv_iconst_2 rfl ?_
    refine x_icmp_ne 51 47 C dX11_isPrime_44 rfl rfl hf (fun hf => ?_) (fun hf => ?_)
    · refine x_iconst 52 C dX11_isPrime_51 (0 : Int32) kv_iconst_0 rfl ?_
      obtain rfl := Option.some.inj hf
      exact R _ _ _ _ X kb_0 dX11_isPrime_52
    refine x_iconst 48 C dX11_isPrime_47 (1 : Int32) kv_iconst_1 rfl ?_
    refine x_goto 52 C dX11_isPrime_48 rfl ?_
    obtain rfl := Option.some.inj hf
    exact R _ _ _ _ X kb_1 dX11_isPrime_52
  refine x_iconst 14 C dX11_isPrime_13 (0 : Int32) kv_iconst_0 rfl ?_
  obtain rfl := Option.some.inj hf
  exact R _ _ _ _ X kb_0 dX11_isPrime_14
set_option maxHeartbeats 4000000 in
set_option maxRecDepth 100000 in
theorem c_X11_unitOf (l : Launch) (D : va_G) (T : KT)  (v0 v2 : Int64)  (x : Int32) (hf : f_X11_unitOf v0 v2 = some x) : kx_MI l yX11_unitOf cX11_unitOf 4 (some .int) 1 23 D T [.long v0, .long v2] (w4_ T  ) (w4_ T  ) x := by
  refine kx_ofMI RX11 rfl (plainFor_of_name (x := yX11_unitOf) kpn_X11) rfl ?_
  intro E A H ls _ C X R hl
  have hl : lv_has ls 4 [(0, .long v0), (2, .long v2)] := hl
  rw [f_X11_unitOf] at hf
  refine x_lload_n 1 C dX11_unitOf_0 hl 0 rfl rfl ?_
  refine x_lload_n 2 C dX11_unitOf_1 hl 1 rfl rfl ?_
  obtain ⟨y2, hy2, hf⟩ := kx_bind hf
  refine x_callSl0 5 C dX11_unitOf_2 X hl kl_X11_112 (c_X11_norm E.2.1 D T  v0 v2  y2 hy2) [] rfl rfl rfl rfl rfl rfl (fun H locs X => ?_)
  refine x_lconst 6 C dX11_unitOf_5 (1 : Int64) kv_lconst_1 rfl ?_
  refine x_lcmp_eq 12 7 10 C dX11_unitOf_6 dX11_unitOf_7 rfl rfl rfl hf (fun hf => ?_) (fun hf => ?_)
  · refine x_lload_n 13 C dX11_unitOf_12 hl 0 rfl rfl ?_
    refine x_lconst 14 C dX11_unitOf_13 (1 : Int64) kv_lconst_1 rfl ?_
    refine x_lcmp_ne 32 15 18 C dX11_unitOf_14 dX11_unitOf_15 rfl rfl rfl hf (fun hf => ?_) (fun hf => ?_)
    · refine x_lload_n 33 C dX11_unitOf_32 hl 0 rfl rfl ?_
      refine x_ldc2_w 36 C dX11_unitOf_33 (-1 : Int64) kc_X11_151 rfl ?_
      refine x_lcmp_ne 54 37 40 C dX11_unitOf_36 dX11_unitOf_37 rfl rfl rfl hf (fun hf => ?_) (fun hf => ?_)
      · refine x_lload_n 55 C dX11_unitOf_54 hl 1 rfl rfl ?_
        refine x_lconst 56 C dX11_unitOf_55 (1 : Int64) kv_lconst_1 rfl ?_
        refine x_lcmp_ne 64 57 60 C dX11_unitOf_56 dX11_unitOf_57 rfl rfl rfl hf (fun hf => ?_) (fun hf => ?_)
        · refine x_iconst 65 C dX11_unitOf_64 (5 : Int32) kv_iconst_5 rfl ?_
          obtain rfl := Option.some.inj hf
          exact R _ _ _ _ X dX11_unitOf_65
        refine x_iconst 61 C dX11_unitOf_60 (2 : Int32) kv_iconst_2 rfl ?_
        refine x_goto 65 C dX11_unitOf_61 rfl ?_
        obtain rfl := Option.some.inj hf
        exact R _ _ _ _ X dX11_unitOf_65
      refine x_lload_n 41 C dX11_unitOf_40 hl 1 rfl rfl ?_
      refine x_lconst 42 C dX11_unitOf_41 (0 : Int64) kv_lconst_0 rfl ?_
      refine x_lcmp_ne 50 43 46 C dX11_unitOf_42 dX11_unitOf_43 rfl rfl rfl hf (fun hf => ?_) (fun hf => ?_)
      · refine x_iconst 51 C dX11_unitOf_50 (4 : Int32) kv_iconst_4 rfl ?_
        refine x_goto 65 C dX11_unitOf_51 rfl ?_
        obtain rfl := Option.some.inj hf
        exact R _ _ _ _ X dX11_unitOf_65
      refine x_iconst 47 C dX11_unitOf_46 (3 : Int32) kv_iconst_3 rfl ?_
      refine x_goto 65 C dX11_unitOf_47 rfl ?_
      obtain rfl := Option.some.inj hf
      exact R _ _ _ _ X dX11_unitOf_65
    refine x_lload_n 19 C dX11_unitOf_18 hl 1 rfl rfl ?_
    refine x_lconst 20 C dX11_unitOf_19 (0 : Int64) kv_lconst_0 rfl ?_
    refine x_lcmp_ne 28 21 24 C dX11_unitOf_20 dX11_unitOf_21 rfl rfl rfl hf (fun hf => ?_) (fun hf => ?_)
    · refine x_iconst 29 C dX11_unitOf_28 (1 : Int32) kv_iconst_1 rfl ?_
      refine x_goto 65 C dX11_unitOf_29 rfl ?_
      obtain rfl := Option.some.inj hf
      exact R _ _ _ _ X dX11_unitOf_65
    refine x_iconst 25 C dX11_unitOf_24 (0 : Int32) kv_iconst_0 rfl ?_
    refine x_goto 65 C dX11_unitOf_25 rfl ?_
    obtain rfl := Option.some.inj hf
    exact R _ _ _ _ X dX11_unitOf_65
  refine x_iconst 11 C dX11_unitOf_10 (-1 : Int32) kv_iconst_m1 rfl ?_
  obtain rfl := Option.some.inj hf
  exact R _ _ _ _ X dX11_unitOf_11
set_option maxHeartbeats 4000000 in
set_option maxRecDepth 100000 in
theorem c_X11_sets (l : Launch) (D : va_G) (T : KT) (h : Nat → Nat) (v1 v3 : Int64) (m_taped m_states : Int32) (m_ra m_rb : Int64) (m_threes m_primes m_ones m_unit : Int32) (m_allParts m_allNorms m_allClasses : Int64) (m_odd : Int32) (m_boxWide m_boxHigh m_boxStep : Int64) (m_partingMany : Int32) (m_qa m_qb m_la m_lb m_sa m_sb m_ta m_tb : Int64) (m_listed m_tells m_wanted m_found : Int32) (m_bits : Int64) (m_power2 m_rings m_ringA m_ringB m_seedNow : Int32) (m_tape m_has m_keptHas m_first m_second m_keptFirst m_keptSecond m_pa m_pb m_pNorm m_cubed m_isOpen m_signs m_often m_la0 m_lb0 : Nat → Int32) (x : Int64 × Int64) (hf : f_X11_sets v1 v3 = some x) : kx_MV l yX11_sets cX11_sets 5 none 0 0 D T [.ref (h 0), .long v1, .long v3] (wM T h m_taped m_states m_ra m_rb m_threes m_primes m_ones m_unit m_allParts m_allNorms m_allClasses m_odd m_boxWide m_boxHigh m_boxStep m_partingMany m_qa m_qb m_la m_lb m_sa m_sb m_ta m_tb m_listed m_tells m_wanted m_found m_bits m_power2 m_rings m_ringA m_ringB m_seedNow m_tape m_has m_keptHas m_first m_second m_keptFirst m_keptSecond m_pa m_pb m_pNorm m_cubed m_isOpen m_signs m_often m_la0 m_lb0) (wM T h m_taped m_states x.1 x.2 m_threes m_primes m_ones m_unit m_allParts m_allNorms m_allClasses m_odd m_boxWide m_boxHigh m_boxStep m_partingMany m_qa m_qb m_la m_lb m_sa m_sb m_ta m_tb m_listed m_tells m_wanted m_found m_bits m_power2 m_rings m_ringA m_ringB m_seedNow m_tape m_has m_keptHas m_first m_second m_keptFirst m_keptSecond m_pa m_pb m_pNorm m_cubed m_isOpen m_signs m_often m_la0 m_lb0) := by
  refine kx_ofMV RX11 rfl (plainFor_of_name (x := yX11_sets) kpn_X11) rfl ?_
  intro E A H ls _ C X R hl
  have hl : lv_has ls 5 [(0, .ref (h 0)), (1, .long v1), (3, .long v3)] := hl
  rw [f_X11_sets] at hf
  refine x_aload_n 1 C dX11_sets_0 hl 0 rfl rfl ?_
  refine x_lload_n 2 C dX11_sets_1 hl 1 rfl rfl ?_
  refine x_put 5 C dX11_sets_2 X kp_X11_105 0 rfl rfl rfl rfl (wM T h m_taped m_states v1 m_rb m_threes m_primes m_ones m_unit m_allParts m_allNorms m_allClasses m_odd m_boxWide m_boxHigh m_boxStep m_partingMany m_qa m_qb m_la m_lb m_sa m_sb m_ta m_tb m_listed m_tells m_wanted m_found m_bits m_power2 m_rings m_ringA m_ringB m_seedNow m_tape m_has m_keptHas m_first m_second m_keptFirst m_keptSecond m_pa m_pb m_pNorm m_cubed m_isOpen m_signs m_often m_la0 m_lb0) rfl rfl (fun H locs X => ?_)
  refine x_aload_n 6 C dX11_sets_5 hl 0 rfl rfl ?_
  refine x_lload_n 7 C dX11_sets_6 hl 2 rfl rfl ?_
  refine x_put 10 C dX11_sets_7 X kp_X11_109 0 rfl rfl rfl rfl (wM T h m_taped m_states v1 v3 m_threes m_primes m_ones m_unit m_allParts m_allNorms m_allClasses m_odd m_boxWide m_boxHigh m_boxStep m_partingMany m_qa m_qb m_la m_lb m_sa m_sb m_ta m_tb m_listed m_tells m_wanted m_found m_bits m_power2 m_rings m_ringA m_ringB m_seedNow m_tape m_has m_keptHas m_first m_second m_keptFirst m_keptSecond m_pa m_pb m_pNorm m_cubed m_isOpen m_signs m_often m_la0 m_lb0) rfl rfl (fun H locs X => ?_)
  obtain rfl := Option.some.inj hf
  exact R _ _ _ _ X dX11_sets_10
set_option maxHeartbeats 4000000 in
set_option maxRecDepth 100000 in
theorem c_X11_times (l : Launch) (D : va_G) (T : KT) (h : Nat → Nat) (v1 v3 v5 v7 : Int64) (m_taped m_states : Int32) (m_ra m_rb : Int64) (m_threes m_primes m_ones m_unit : Int32) (m_allParts m_allNorms m_allClasses : Int64) (m_odd : Int32) (m_boxWide m_boxHigh m_boxStep : Int64) (m_partingMany : Int32) (m_qa m_qb m_la m_lb m_sa m_sb m_ta m_tb : Int64) (m_listed m_tells m_wanted m_found : Int32) (m_bits : Int64) (m_power2 m_rings m_ringA m_ringB m_seedNow : Int32) (m_tape m_has m_keptHas m_first m_second m_keptFirst m_keptSecond m_pa m_pb m_pNorm m_cubed m_isOpen m_signs m_often m_la0 m_lb0 : Nat → Int32) (x : Int64 × Int64) (hf : f_X11_times v1 v3 v5 v7 = some x) : kx_MV l yX11_times cX11_times 9 none 1 24 D T [.ref (h 0), .long v1, .long v3, .long v5, .long v7] (wM T h m_taped m_states m_ra m_rb m_threes m_primes m_ones m_unit m_allParts m_allNorms m_allClasses m_odd m_boxWide m_boxHigh m_boxStep m_partingMany m_qa m_qb m_la m_lb m_sa m_sb m_ta m_tb m_listed m_tells m_wanted m_found m_bits m_power2 m_rings m_ringA m_ringB m_seedNow m_tape m_has m_keptHas m_first m_second m_keptFirst m_keptSecond m_pa m_pb m_pNorm m_cubed m_isOpen m_signs m_often m_la0 m_lb0) (wM T h m_taped m_states x.1 x.2 m_threes m_primes m_ones m_unit m_allParts m_allNorms m_allClasses m_odd m_boxWide m_boxHigh m_boxStep m_partingMany m_qa m_qb m_la m_lb m_sa m_sb m_ta m_tb m_listed m_tells m_wanted m_found m_bits m_power2 m_rings m_ringA m_ringB m_seedNow m_tape m_has m_keptHas m_first m_second m_keptFirst m_keptSecond m_pa m_pb m_pNorm m_cubed m_isOpen m_signs m_often m_la0 m_lb0) := by
  refine kx_ofMV RX11 rfl (plainFor_of_name (x := yX11_times) kpn_X11) rfl ?_
  intro E A H ls _ C X R hl
  have hl : lv_has ls 9 [(0, .ref (h 0)), (1, .long v1), (3, .long v3), (5, .long v5), (7, .long v7)] := hl
  rw [f_X11_times] at hf
  refine x_aload_n 1 C dX11_times_0 hl 0 rfl rfl ?_
  refine x_lload_n 2 C dX11_times_1 hl 1 rfl rfl ?_
  refine x_lload 4 C dX11_times_2 hl 3 rfl rfl ?_
  refine x_lmul 5 C dX11_times_4 rfl ?_
  refine x_lload_n 6 C dX11_times_5 hl 2 rfl rfl ?_
  refine x_lload 8 C dX11_times_6 hl 4 rfl rfl ?_
  refine x_lmul 9 C dX11_times_8 rfl ?_
  refine x_lsub 10 C dX11_times_9 rfl ?_
  refine x_lload_n 11 C dX11_times_10 hl 1 rfl rfl ?_
  refine x_lload 13 C dX11_times_11 hl 4 rfl rfl ?_
  refine x_lmul 14 C dX11_times_13 rfl ?_
  refine x_lload_n 15 C dX11_times_14 hl 2 rfl rfl ?_
  refine x_lload 17 C dX11_times_15 hl 3 rfl rfl ?_
  refine x_lmul 18 C dX11_times_17 rfl ?_
  refine x_ladd 19 C dX11_times_18 rfl ?_
  refine x_lload_n 20 C dX11_times_19 hl 2 rfl rfl ?_
  refine x_lload 22 C dX11_times_20 hl 4 rfl rfl ?_
  refine x_lmul 23 C dX11_times_22 rfl ?_
  refine x_lsub 24 C dX11_times_23 rfl ?_
  obtain ⟨y24, hy24, hf⟩ := kx_bind hf
  refine x_callVv0 27 C dX11_times_24 X hl kl_X11_115 (c_X11_sets E.2.1 D T h ((v1 * v5) - (v3 * v7)) (((v1 * v7) + (v3 * v5)) - (v3 * v7)) m_taped m_states m_ra m_rb m_threes m_primes m_ones m_unit m_allParts m_allNorms m_allClasses m_odd m_boxWide m_boxHigh m_boxStep m_partingMany m_qa m_qb m_la m_lb m_sa m_sb m_ta m_tb m_listed m_tells m_wanted m_found m_bits m_power2 m_rings m_ringA m_ringB m_seedNow m_tape m_has m_keptHas m_first m_second m_keptFirst m_keptSecond m_pa m_pb m_pNorm m_cubed m_isOpen m_signs m_often m_la0 m_lb0 y24 hy24) rfl rfl [] rfl rfl rfl rfl rfl rfl (fun H locs X => ?_)
  obtain rfl := Option.some.inj hf
  exact R _ _ _ _ X dX11_times_27
set_option maxHeartbeats 4000000 in
set_option maxRecDepth 100000 in
theorem w_X11_takesThrees_72 {E : KE} {A : Nat → Prop} {D : va_G} {T : KT} (h : Nat → Nat) (C : kx_C E cX11_takesThrees 5 none RX11 3 71 D T) (N : Nat) (x : Int64 × Int64 × Int32) (m_taped m_states m_primes m_ones m_unit : Int32) (m_allParts m_allNorms m_allClasses : Int64) (m_odd : Int32) (m_boxWide m_boxHigh m_boxStep : Int64) (m_partingMany : Int32) (m_qa m_qb m_la m_lb m_sa m_sb m_ta m_tb : Int64) (m_listed m_tells m_wanted m_found : Int32) (m_bits : Int64) (m_power2 m_rings m_ringA m_ringB m_seedNow : Int32) (m_tape m_has m_keptHas m_first m_second m_keptFirst m_keptSecond m_pa m_pb m_pNorm m_cubed m_isOpen m_signs m_often m_la0 m_lb0 : Nat → Int32) (R : kx_RV E cX11_takesThrees D A (wM T h m_taped m_states x.1 x.2.1 x.2.2 m_primes m_ones m_unit m_allParts m_allNorms m_allClasses m_odd m_boxWide m_boxHigh m_boxStep m_partingMany m_qa m_qb m_la m_lb m_sa m_sb m_ta m_tb m_listed m_tells m_wanted m_found m_bits m_power2 m_rings m_ringA m_ringB m_seedNow m_tape m_has m_keptHas m_first m_second m_keptFirst m_keptSecond m_pa m_pb m_pNorm m_cubed m_isOpen m_signs m_often m_la0 m_lb0)) : ∀ (k : Nat), ∀ (m_ra m_rb : Int64) (m_threes : Int32)  (H : Heap) (locs : List Loc) (ls : Array Slot), kx_H E D A H locs (wM T h m_taped m_states m_ra m_rb m_threes m_primes m_ones m_unit m_allParts m_allNorms m_allClasses m_odd m_boxWide m_boxHigh m_boxStep m_partingMany m_qa m_qb m_la m_lb m_sa m_sb m_ta m_tb m_listed m_tells m_wanted m_found m_bits m_power2 m_rings m_ringA m_ringB m_seedNow m_tape m_has m_keptHas m_first m_second m_keptFirst m_keptSecond m_pa m_pb m_pNorm m_cubed m_isOpen m_signs m_often m_la0 m_lb0) → lv_has ls 5 [(0, .ref (h 0))] → f_X11_takesThrees_72 N k m_ra m_rb m_threes = some x → kx_W E H locs 72 ls [] := by
  intro k
  induction k with
  | zero =>
    intro m_ra m_rb m_threes H locs ls X hl hf
    cases (show (none : Option (Int64 × Int64 × Int32)) = some x from hf)
  | succ k ih =>
    intro m_ra m_rb m_threes H locs ls X hl hf
    rw [f_X11_takesThrees_72] at hf
    refine x_aload_n 73 C dX11_takesThrees_72 hl 0 rfl rfl ?_
    refine x_get 76 C dX11_takesThrees_73 X kf_X11_105 0 rfl rfl rfl ?_
    refine x_aload_n 77 C dX11_takesThrees_76 hl 0 rfl rfl ?_
    refine x_get 80 C dX11_takesThrees_77 X kf_X11_109 0 rfl rfl rfl ?_
    obtain ⟨y80, hy80, hf⟩ := kx_bind hf
    refine x_callSi 83 C dX11_takesThrees_80 X hl kl_X11_145 (c_X11_isPrimary E.2.1 D T  m_ra m_rb  y80 hy80) [] rfl rfl rfl rfl rfl cb_7 rfl (fun H locs X => ?_)
    refine x_if_ne 103 86 C dX11_takesThrees_83 rfl rfl hf (fun hf => ?_) (fun hf => ?_)
    · obtain rfl := Option.some.inj hf
      exact R _ _ _ _ X dX11_takesThrees_103
    refine x_aload_n 87 C dX11_takesThrees_86 hl 0 rfl rfl ?_
    refine x_aload_n 88 C dX11_takesThrees_87 hl 0 rfl rfl ?_
    refine x_get 91 C dX11_takesThrees_88 X kf_X11_105 0 rfl rfl rfl ?_
    refine x_aload_n 92 C dX11_takesThrees_91 hl 0 rfl rfl ?_
    refine x_get 95 C dX11_takesThrees_92 X kf_X11_109 0 rfl rfl rfl ?_
    refine x_lconst 96 C dX11_takesThrees_95 (1 : Int64) kv_lconst_1 rfl ?_
    refine x_lconst 97 C dX11_takesThrees_96 (1 : Int64) kv_lconst_1 rfl ?_
    obtain ⟨y97, hy97, hf⟩ := kx_bind hf
    refine x_callVv0 100 C dX11_takesThrees_97 X hl kl_X11_121 (c_X11_times E.2.1 D T h m_ra m_rb (1 : Int64) (1 : Int64) m_taped m_states m_ra m_rb m_threes m_primes m_ones m_unit m_allParts m_allNorms m_allClasses m_odd m_boxWide m_boxHigh m_boxStep m_partingMany m_qa m_qb m_la m_lb m_sa m_sb m_ta m_tb m_listed m_tells m_wanted m_found m_bits m_power2 m_rings m_ringA m_ringB m_seedNow m_tape m_has m_keptHas m_first m_second m_keptFirst m_keptSecond m_pa m_pb m_pNorm m_cubed m_isOpen m_signs m_often m_la0 m_lb0 y97 hy97) rfl rfl [] rfl rfl rfl rfl rfl rfl (fun H locs X => ?_)
    refine x_goto 72 C dX11_takesThrees_100 rfl ?_
    exact ih y97.1 y97.2 m_threes _ _ _ X (lv_sub hl [0] rfl) hf
set_option maxHeartbeats 4000000 in
set_option maxRecDepth 100000 in
theorem w_X11_takesThrees_11 {E : KE} {A : Nat → Prop} {D : va_G} {T : KT} (h : Nat → Nat) (C : kx_C E cX11_takesThrees 5 none RX11 3 71 D T) (N : Nat) (x : Int64 × Int64 × Int32) (m_taped m_states m_primes m_ones m_unit : Int32) (m_allParts m_allNorms m_allClasses : Int64) (m_odd : Int32) (m_boxWide m_boxHigh m_boxStep : Int64) (m_partingMany : Int32) (m_qa m_qb m_la m_lb m_sa m_sb m_ta m_tb : Int64) (m_listed m_tells m_wanted m_found : Int32) (m_bits : Int64) (m_power2 m_rings m_ringA m_ringB m_seedNow : Int32) (m_tape m_has m_keptHas m_first m_second m_keptFirst m_keptSecond m_pa m_pb m_pNorm m_cubed m_isOpen m_signs m_often m_la0 m_lb0 : Nat → Int32) (R : kx_RV E cX11_takesThrees D A (wM T h m_taped m_states x.1 x.2.1 x.2.2 m_primes m_ones m_unit m_allParts m_allNorms m_allClasses m_odd m_boxWide m_boxHigh m_boxStep m_partingMany m_qa m_qb m_la m_lb m_sa m_sb m_ta m_tb m_listed m_tells m_wanted m_found m_bits m_power2 m_rings m_ringA m_ringB m_seedNow m_tape m_has m_keptHas m_first m_second m_keptFirst m_keptSecond m_pa m_pb m_pNorm m_cubed m_isOpen m_signs m_often m_la0 m_lb0)) : ∀ (k : Nat), ∀ (m_ra m_rb : Int64) (m_threes : Int32)  (H : Heap) (locs : List Loc) (ls : Array Slot), kx_H E D A H locs (wM T h m_taped m_states m_ra m_rb m_threes m_primes m_ones m_unit m_allParts m_allNorms m_allClasses m_odd m_boxWide m_boxHigh m_boxStep m_partingMany m_qa m_qb m_la m_lb m_sa m_sb m_ta m_tb m_listed m_tells m_wanted m_found m_bits m_power2 m_rings m_ringA m_ringB m_seedNow m_tape m_has m_keptHas m_first m_second m_keptFirst m_keptSecond m_pa m_pb m_pNorm m_cubed m_isOpen m_signs m_often m_la0 m_lb0) → lv_has ls 5 [(0, .ref (h 0))] → f_X11_takesThrees_11 N k m_ra m_rb m_threes = some x → kx_W E H locs 11 ls [] := by
  intro k
  induction k with
  | zero =>
    intro m_ra m_rb m_threes H locs ls X hl hf
    cases (show (none : Option (Int64 × Int64 × Int32)) = some x from hf)
  | succ k ih =>
    intro m_ra m_rb m_threes H locs ls X hl hf
    rw [f_X11_takesThrees_11] at hf
    refine x_aload_n 12 C dX11_takesThrees_11 hl 0 rfl rfl ?_
    refine x_get 15 C dX11_takesThrees_12 X kf_X11_105 0 rfl rfl rfl ?_
    refine x_aload_n 16 C dX11_takesThrees_15 hl 0 rfl rfl ?_
    refine x_get 19 C dX11_takesThrees_16 X kf_X11_109 0 rfl rfl rfl ?_
    obtain ⟨y19, hy19, hf⟩ := kx_bind hf
    refine x_callSi 22 C dX11_takesThrees_19 X hl kl_X11_142 (c_X11_isThree E.2.1 D T  m_ra m_rb  y19 hy19) [] rfl rfl rfl rfl rfl cb_7 rfl (fun H locs X => ?_)
    refine x_if_eq 72 25 C dX11_takesThrees_22 rfl rfl hf (fun hf => ?_) (fun hf => ?_)
    · exact w_X11_takesThrees_72 h C N x m_taped m_states m_primes m_ones m_unit m_allParts m_allNorms m_allClasses m_odd m_boxWide m_boxHigh m_boxStep m_partingMany m_qa m_qb m_la m_lb m_sa m_sb m_ta m_tb m_listed m_tells m_wanted m_found m_bits m_power2 m_rings m_ringA m_ringB m_seedNow m_tape m_has m_keptHas m_first m_second m_keptFirst m_keptSecond m_pa m_pb m_pNorm m_cubed m_isOpen m_signs m_often m_la0 m_lb0 R  N m_ra m_rb m_threes _ _ _ X (lv_sub hl [0] rfl) hf
    refine x_aload_n 26 C dX11_takesThrees_25 hl 0 rfl rfl ?_
    refine x_ldc2_w 29 C dX11_takesThrees_26 (2 : Int64) kc_X11_119 rfl ?_
    refine x_aload_n 30 C dX11_takesThrees_29 hl 0 rfl rfl ?_
    refine x_get 33 C dX11_takesThrees_30 X kf_X11_105 0 rfl rfl rfl ?_
    refine x_lmul 34 C dX11_takesThrees_33 rfl ?_
    refine x_aload_n 35 C dX11_takesThrees_34 hl 0 rfl rfl ?_
    refine x_get 38 C dX11_takesThrees_35 X kf_X11_109 0 rfl rfl rfl ?_
    refine x_lsub 39 C dX11_takesThrees_38 rfl ?_
    refine x_ldc2_w 42 C dX11_takesThrees_39 (3 : Int64) kc_X11_134 rfl ?_
    refine x_ldiv0 43 C dX11_takesThrees_42 kz_l_3 rfl ?_
    refine x_aload_n 44 C dX11_takesThrees_43 hl 0 rfl rfl ?_
    refine x_get 47 C dX11_takesThrees_44 X kf_X11_105 0 rfl rfl rfl ?_
    refine x_aload_n 48 C dX11_takesThrees_47 hl 0 rfl rfl ?_
    refine x_get 51 C dX11_takesThrees_48 X kf_X11_109 0 rfl rfl rfl ?_
    refine x_ladd 52 C dX11_takesThrees_51 rfl ?_
    refine x_ldc2_w 55 C dX11_takesThrees_52 (3 : Int64) kc_X11_134 rfl ?_
    refine x_ldiv0 56 C dX11_takesThrees_55 kz_l_3 rfl ?_
    obtain ⟨y56, hy56, hf⟩ := kx_bind hf
    refine x_callVv0 59 C dX11_takesThrees_56 X hl kl_X11_115 (c_X11_sets E.2.1 D T h ((((2 : Int64) * m_ra) - m_rb) / (3 : Int64)) ((m_ra + m_rb) / (3 : Int64)) m_taped m_states m_ra m_rb m_threes m_primes m_ones m_unit m_allParts m_allNorms m_allClasses m_odd m_boxWide m_boxHigh m_boxStep m_partingMany m_qa m_qb m_la m_lb m_sa m_sb m_ta m_tb m_listed m_tells m_wanted m_found m_bits m_power2 m_rings m_ringA m_ringB m_seedNow m_tape m_has m_keptHas m_first m_second m_keptFirst m_keptSecond m_pa m_pb m_pNorm m_cubed m_isOpen m_signs m_often m_la0 m_lb0 y56 hy56) rfl rfl [] rfl rfl rfl rfl rfl rfl (fun H locs X => ?_)
    refine x_aload_n 60 C dX11_takesThrees_59 hl 0 rfl rfl ?_
    refine x_aload_n 61 C dX11_takesThrees_60 hl 0 rfl rfl ?_
    refine x_get 64 C dX11_takesThrees_61 X kf_X11_139 0 rfl rfl rfl ?_
    refine x_iconst 65 C dX11_takesThrees_64 (1 : Int32) kv_iconst_1 rfl ?_
    refine x_iadd 66 C dX11_takesThrees_65 rfl ?_
    refine x_put 69 C dX11_takesThrees_66 X kp_X11_139 0 rfl rfl rfl rfl (wM T h m_taped m_states y56.1 y56.2 (m_threes + (1 : Int32)) m_primes m_ones m_unit m_allParts m_allNorms m_allClasses m_odd m_boxWide m_boxHigh m_boxStep m_partingMany m_qa m_qb m_la m_lb m_sa m_sb m_ta m_tb m_listed m_tells m_wanted m_found m_bits m_power2 m_rings m_ringA m_ringB m_seedNow m_tape m_has m_keptHas m_first m_second m_keptFirst m_keptSecond m_pa m_pb m_pNorm m_cubed m_isOpen m_signs m_often m_la0 m_lb0) rfl rfl (fun H locs X => ?_)
    refine x_goto 11 C dX11_takesThrees_69 rfl ?_
    exact ih y56.1 y56.2 (m_threes + (1 : Int32)) _ _ _ X (lv_sub hl [0] rfl) hf
set_option maxHeartbeats 4000000 in
set_option maxRecDepth 100000 in
theorem c_X11_takesThrees (l : Launch) (D : va_G) (T : KT) (h : Nat → Nat) (N : Nat) (v1 v3 : Int64) (m_taped m_states : Int32) (m_ra m_rb : Int64) (m_threes m_primes m_ones m_unit : Int32) (m_allParts m_allNorms m_allClasses : Int64) (m_odd : Int32) (m_boxWide m_boxHigh m_boxStep : Int64) (m_partingMany : Int32) (m_qa m_qb m_la m_lb m_sa m_sb m_ta m_tb : Int64) (m_listed m_tells m_wanted m_found : Int32) (m_bits : Int64) (m_power2 m_rings m_ringA m_ringB m_seedNow : Int32) (m_tape m_has m_keptHas m_first m_second m_keptFirst m_keptSecond m_pa m_pb m_pNorm m_cubed m_isOpen m_signs m_often m_la0 m_lb0 : Nat → Int32) (x : Int64 × Int64 × Int32) (hf : f_X11_takesThrees N v1 v3 = some x) : kx_MV l yX11_takesThrees cX11_takesThrees 5 none 3 71 D T [.ref (h 0), .long v1, .long v3] (wM T h m_taped m_states m_ra m_rb m_threes m_primes m_ones m_unit m_allParts m_allNorms m_allClasses m_odd m_boxWide m_boxHigh m_boxStep m_partingMany m_qa m_qb m_la m_lb m_sa m_sb m_ta m_tb m_listed m_tells m_wanted m_found m_bits m_power2 m_rings m_ringA m_ringB m_seedNow m_tape m_has m_keptHas m_first m_second m_keptFirst m_keptSecond m_pa m_pb m_pNorm m_cubed m_isOpen m_signs m_often m_la0 m_lb0) (wM T h m_taped m_states x.1 x.2.1 x.2.2 m_primes m_ones m_unit m_allParts m_allNorms m_allClasses m_odd m_boxWide m_boxHigh m_boxStep m_partingMany m_qa m_qb m_la m_lb m_sa m_sb m_ta m_tb m_listed m_tells m_wanted m_found m_bits m_power2 m_rings m_ringA m_ringB m_seedNow m_tape m_has m_keptHas m_first m_second m_keptFirst m_keptSecond m_pa m_pb m_pNorm m_cubed m_isOpen m_signs m_often m_la0 m_lb0) := by
  refine kx_ofMV RX11 rfl (plainFor_of_name (x := yX11_takesThrees) kpn_X11) rfl ?_
  intro E A H ls _ C X R hl
  have hl : lv_has ls 5 [(0, .ref (h 0)), (1, .long v1), (3, .long v3)] := hl
  rw [f_X11_takesThrees] at hf
  refine x_aload_n 1 C dX11_takesThrees_0 hl 0 rfl rfl ?_
  refine x_iconst 2 C dX11_takesThrees_1 (0 : Int32) kv_iconst_0 rfl ?_
  refine x_put 5 C dX11_takesThrees_2 X kp_X11_139 0 rfl rfl rfl rfl (wM T h m_taped m_states m_ra m_rb (0 : Int32) m_primes m_ones m_unit m_allParts m_allNorms m_allClasses m_odd m_boxWide m_boxHigh m_boxStep m_partingMany m_qa m_qb m_la m_lb m_sa m_sb m_ta m_tb m_listed m_tells m_wanted m_found m_bits m_power2 m_rings m_ringA m_ringB m_seedNow m_tape m_has m_keptHas m_first m_second m_keptFirst m_keptSecond m_pa m_pb m_pNorm m_cubed m_isOpen m_signs m_often m_la0 m_lb0) rfl rfl (fun H locs X => ?_)
  refine x_aload_n 6 C dX11_takesThrees_5 hl 0 rfl rfl ?_
  refine x_lload_n 7 C dX11_takesThrees_6 hl 1 rfl rfl ?_
  refine x_lload_n 8 C dX11_takesThrees_7 hl 2 rfl rfl ?_
  obtain ⟨y8, hy8, hf⟩ := kx_bind hf
  refine x_callVv0 11 C dX11_takesThrees_8 X hl kl_X11_115 (c_X11_sets E.2.1 D T h v1 v3 m_taped m_states m_ra m_rb (0 : Int32) m_primes m_ones m_unit m_allParts m_allNorms m_allClasses m_odd m_boxWide m_boxHigh m_boxStep m_partingMany m_qa m_qb m_la m_lb m_sa m_sb m_ta m_tb m_listed m_tells m_wanted m_found m_bits m_power2 m_rings m_ringA m_ringB m_seedNow m_tape m_has m_keptHas m_first m_second m_keptFirst m_keptSecond m_pa m_pb m_pNorm m_cubed m_isOpen m_signs m_often m_la0 m_lb0 y8 hy8) rfl rfl [] rfl rfl rfl rfl rfl rfl (fun H locs X => ?_)
  exact w_X11_takesThrees_11 h C N x m_taped m_states m_primes m_ones m_unit m_allParts m_allNorms m_allClasses m_odd m_boxWide m_boxHigh m_boxStep m_partingMany m_qa m_qb m_la m_lb m_sa m_sb m_ta m_tb m_listed m_tells m_wanted m_found m_bits m_power2 m_rings m_ringA m_ringB m_seedNow m_tape m_has m_keptHas m_first m_second m_keptFirst m_keptSecond m_pa m_pb m_pNorm m_cubed m_isOpen m_signs m_often m_la0 m_lb0 R  N y8.1 y8.2 (0 : Int32) _ _ _ X (lv_sub hl [0] rfl) hf
