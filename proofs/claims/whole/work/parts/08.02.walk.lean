set_option maxHeartbeats 4000000 in
set_option maxRecDepth 100000 in
theorem c_X5_turn (l : Launch) (D : va_G) (T : KT) (h0 : Nat)  (m_a m_b : Int64) (x : Int64 × Int64) (hf : f_X5_turn m_a m_b = some x) : kx_MV l yX5_turn cX5_turn 1 none 1 24 D T [.ref h0] (w7_X5 T h0 m_a m_b) (w7_X5 T h0 x.1 x.2) := by
  refine kx_ofMV RX5 rfl (plainFor_of_name (x := yX5_turn) kpn_X5) rfl ?_
  intro E A H ls _ C X R hl
  have hl : lv_has ls 1 [(0, .ref h0)] := hl
  rw [f_X5_turn] at hf
  refine x_aload_n 1 C dX5_turn_0 hl 0 rfl rfl ?_
  refine x_aload_n 2 C dX5_turn_1 hl 0 rfl rfl ?_
  refine x_get 5 C dX5_turn_2 X kf_X5_9 0 rfl rfl rfl ?_
  refine x_aload_n 6 C dX5_turn_5 hl 0 rfl rfl ?_
  refine x_get 9 C dX5_turn_6 X kf_X5_15 0 rfl rfl rfl ?_
  refine x_lsub 10 C dX5_turn_9 rfl ?_
  refine x_aload_n 11 C dX5_turn_10 hl 0 rfl rfl ?_
  refine x_get 14 C dX5_turn_11 X kf_X5_15 0 rfl rfl rfl ?_
  refine x_lneg 15 C dX5_turn_14 rfl ?_
  obtain ⟨y15, hy15, hf⟩ := kx_bind hf
  refine x_callVv0 18 C dX5_turn_15 X hl kl_X5_44 (c_X5_set E.2.1 D T h0 (m_a - m_b) (-m_b) m_a m_b y15 hy15) rfl rfl [] rfl rfl rfl rfl rfl rfl (fun H locs X => ?_)
  obtain rfl := Option.some.inj hf
  exact R _ _ _ _ X dX5_turn_18
set_option maxHeartbeats 4000000 in
set_option maxRecDepth 100000 in
theorem c_X2_addWhole (l : Launch) (D : va_G) (T : KT) (h0 h1 h2 h3 h4 h5 h6 h7 : Nat) (N : Nat) (v1 : Int64) (m_count m_threes m_unit : Int32) (m_primeA m_primeB m_norms : Nat → Int64) (m_found_a m_found_b : Int64) (x : Int32 × (Nat → Int64) × (Nat → Int64) × (Nat → Int64) × Int64 × Int64) (hf : f_X2_addWhole N v1 m_count m_primeA m_primeB m_norms m_found_a m_found_b = some x) : kx_MV l yX2_addWhole cX2_addWhole 3 none 3 69 D T [.ref h0, .long v1] (w20_X2 T h0 h1 h2 h3 h4 h5 h6 h7 m_count m_threes m_unit m_primeA m_primeB m_norms m_found_a m_found_b) (w20_X2 T h0 h1 h2 h3 h4 h5 h6 h7 x.1 m_threes m_unit x.2.1 x.2.2.1 x.2.2.2.1 x.2.2.2.2.1 x.2.2.2.2.2) := by
  refine kx_ofMV RX2 rfl (plainFor_of_name (x := yX2_addWhole) kpn_X2) rfl ?_
  intro E A H ls _ C X R hl
  have hl : lv_has ls 3 [(0, .ref h0), (1, .long v1)] := hl
  rw [f_X2_addWhole] at hf
  refine x_lload_n 1 C dX2_addWhole_0 hl 1 rfl rfl ?_
  refine x_ldc2_w 4 C dX2_addWhole_1 (3 : Int64) kc_X2_91 rfl ?_
  refine x_lrem0 5 C dX2_addWhole_4 kz_l_3 rfl ?_
  refine x_ldc2_w 8 C dX2_addWhole_5 (2 : Int64) kc_X2_84 rfl ?_
  refine x_lcmp_ne 26 9 12 C dX2_addWhole_8 dX2_addWhole_9 rfl rfl rfl hf (fun hf => ?_) (fun hf => ?_)
  · refine x_lload_n 27 C dX2_addWhole_26 hl 1 rfl rfl ?_
    refine x_l2i 28 C dX2_addWhole_27 rfl ?_
    refine x_aload_n 29 C dX2_addWhole_28 hl 0 rfl rfl ?_
    refine x_get 32 C dX2_addWhole_29 X kf_X2_33 0 rfl rfl rfl ?_
    obtain ⟨y32, hy32, hf⟩ := kx_bind hf
    refine x_callSv 35 C dX2_addWhole_32 X hl kl_X2_96 (c_X6_splitInto E.2.1 D T h6 N (v1).toInt32 m_found_a m_found_b y32 hy32) [] rfl rfl rfl rfl rfl cb_24 rfl (fun H locs X => ?_)
    refine x_aload_n 36 C dX2_addWhole_35 hl 0 rfl rfl ?_
    obtain ⟨y36, hy36, hf⟩ := kx_bind hf
    refine x_callVv0 39 C dX2_addWhole_36 X hl kl_X2_93 (c_X2_insert E.2.1 D T h0 h1 h2 h3 h4 h5 h6 h7 N  m_count m_threes m_unit m_primeA m_primeB m_norms y32.1 y32.2 y36 hy36) rfl rfl [] rfl rfl rfl rfl rfl rfl (fun H locs X => ?_)
    refine x_aload_n 40 C dX2_addWhole_39 hl 0 rfl rfl ?_
    refine x_get 43 C dX2_addWhole_40 X kf_X2_33 0 rfl rfl rfl ?_
    obtain ⟨y43, hy43, hf⟩ := kx_bind hf
    refine x_callVv 46 C dX2_addWhole_43 X hl kl_X2_102 (c_X5_turn E.2.1 D T h6  y32.1 y32.2 y43 hy43) rfl rfl [] rfl rfl rfl rfl rfl cb_25 rfl (fun H locs X => ?_)
    refine x_aload_n 47 C dX2_addWhole_46 hl 0 rfl rfl ?_
    obtain ⟨y47, hy47, hf⟩ := kx_bind hf
    refine x_callVv0 50 C dX2_addWhole_47 X hl kl_X2_93 (c_X2_insert E.2.1 D T h0 h1 h2 h3 h4 h5 h6 h7 N  y36.1 m_threes m_unit y36.2.1 y36.2.2.1 y36.2.2.2 y43.1 y43.2 y47 hy47) rfl rfl [] rfl rfl rfl rfl rfl rfl (fun H locs X => ?_)
    obtain rfl := Option.some.inj hf
    exact R _ _ _ _ X dX2_addWhole_50
  refine x_aload_n 13 C dX2_addWhole_12 hl 0 rfl rfl ?_
  refine x_get 16 C dX2_addWhole_13 X kf_X2_33 0 rfl rfl rfl ?_
  refine x_lload_n 17 C dX2_addWhole_16 hl 1 rfl rfl ?_
  refine x_lconst 18 C dX2_addWhole_17 (0 : Int64) kv_lconst_0 rfl ?_
  obtain ⟨y18, hy18, hf⟩ := kx_bind hf
  refine x_callVv 21 C dX2_addWhole_18 X hl kl_X2_70 (c_X5_set E.2.1 D T h6 v1 (0 : Int64) m_found_a m_found_b y18 hy18) rfl rfl [] rfl rfl rfl rfl rfl cb_25 rfl (fun H locs X => ?_)
  refine x_aload_n 22 C dX2_addWhole_21 hl 0 rfl rfl ?_
  obtain ⟨y22, hy22, hf⟩ := kx_bind hf
  refine x_callVv0 25 C dX2_addWhole_22 X hl kl_X2_93 (c_X2_insert E.2.1 D T h0 h1 h2 h3 h4 h5 h6 h7 N  m_count m_threes m_unit m_primeA m_primeB m_norms y18.1 y18.2 y22 hy22) rfl rfl [] rfl rfl rfl rfl rfl rfl (fun H locs X => ?_)
  obtain rfl := Option.some.inj hf
  exact R _ _ _ _ X dX2_addWhole_25
set_option maxHeartbeats 4000000 in
set_option maxRecDepth 100000 in
theorem w_X2_spellWhole_29 {E : KE} {A : Nat → Prop} {D : va_G} {T : KT} (h0 h1 h2 h3 h4 h5 h6 h7 : Nat) (C : kx_C E cX2_spellWhole 8 none RX2 4 91 D T) (N : Nat) (x : Int32 × (Nat → Int64) × (Nat → Int64) × (Nat → Int64) × Int64 × Int64) (m_threes m_unit : Int32) (R : kx_RV E cX2_spellWhole D A (w20_X2 T h0 h1 h2 h3 h4 h5 h6 h7 x.1 m_threes m_unit x.2.1 x.2.2.1 x.2.2.2.1 x.2.2.2.2.1 x.2.2.2.2.2)) (k7 : Int64 → Int64 → Int32 → (Nat → Int64) → (Nat → Int64) → (Nat → Int64) → Int64 → Int64 → Option (Int32 × (Nat → Int64) × (Nat → Int64) × (Nat → Int64) × Int64 × Int64)) (hk7 : ∀ (m_count : Int32) (m_primeA m_primeB m_norms : Nat → Int64) (m_found_a m_found_b : Int64) (v3 v5 : Int64) (H : Heap) (locs : List Loc) (ls : Array Slot), kx_H E D A H locs (w20_X2 T h0 h1 h2 h3 h4 h5 h6 h7 m_count m_threes m_unit m_primeA m_primeB m_norms m_found_a m_found_b) → lv_has ls 8 [(0, .ref h0), (3, .long v3), (5, .long v5)] → k7 v3 v5 m_count m_primeA m_primeB m_norms m_found_a m_found_b = some x → kx_W E H locs 7 ls []) : ∀ (k : Nat), ∀ (m_count : Int32) (m_primeA m_primeB m_norms : Nat → Int64) (m_found_a m_found_b : Int64) (v3 v5 : Int64) (v7 : Int32) (H : Heap) (locs : List Loc) (ls : Array Slot), kx_H E D A H locs (w20_X2 T h0 h1 h2 h3 h4 h5 h6 h7 m_count m_threes m_unit m_primeA m_primeB m_norms m_found_a m_found_b) → lv_has ls 8 [(0, .ref h0), (3, .long v3), (5, .long v5), (7, .int v7)] → f_X2_spellWhole_29 N k7 k v3 v5 v7 m_count m_primeA m_primeB m_norms m_found_a m_found_b = some x → kx_W E H locs 29 ls [] := by
  intro k
  induction k with
  | zero =>
    intro m_count m_primeA m_primeB m_norms m_found_a m_found_b v3 v5 v7 H locs ls X hl hf
    cases (show (none : Option (Int32 × (Nat → Int64) × (Nat → Int64) × (Nat → Int64) × Int64 × Int64)) = some x from hf)
  | succ k ih =>
    intro m_count m_primeA m_primeB m_norms m_found_a m_found_b v3 v5 v7 H locs ls X hl hf
    rw [f_X2_spellWhole_29] at hf
    refine x_iload 31 C dX2_spellWhole_29 hl 3 rfl rfl ?_
    refine x_bipush 33 C dX2_spellWhole_31 (32 : Int32) kv_bipush_32 rfl ?_
    refine x_icmp_ge 62 36 C dX2_spellWhole_33 rfl rfl hf (fun hf => ?_) (fun hf => ?_)
    · refine x_lload 64 C dX2_spellWhole_62 hl 2 rfl rfl ?_
      refine x_lconst 65 C dX2_spellWhole_64 (1 : Int64) kv_lconst_1 rfl ?_
      refine x_ladd 66 C dX2_spellWhole_65 rfl ?_
      refine x_lstore 68 C dX2_spellWhole_66 [(5, .long (v5 + (1 : Int64))), (0, .ref h0), (3, .long v3), (7, .int v7)] hl rfl rfl rfl (fun ls hl => ?_)
      refine x_goto 7 C dX2_spellWhole_68 rfl ?_
      exact hk7 m_count m_primeA m_primeB m_norms m_found_a m_found_b v3 (v5 + (1 : Int64)) _ _ _ X (lv_sub hl [1, 2, 0] rfl) hf
    refine x_lload_n 37 C dX2_spellWhole_36 hl 1 rfl rfl ?_
    refine x_lload 39 C dX2_spellWhole_37 hl 2 rfl rfl ?_
    refine x_lrem 40 C dX2_spellWhole_39 hf rfl (fun hf => ?_)
    refine x_lconst 41 C dX2_spellWhole_40 (0 : Int64) kv_lconst_0 rfl ?_
    refine x_lcmp_ne 62 42 45 C dX2_spellWhole_41 dX2_spellWhole_42 rfl rfl rfl hf (fun hf => ?_) (fun hf => ?_)
    · refine x_lload 64 C dX2_spellWhole_62 hl 2 rfl rfl ?_
      refine x_lconst 65 C dX2_spellWhole_64 (1 : Int64) kv_lconst_1 rfl ?_
      refine x_ladd 66 C dX2_spellWhole_65 rfl ?_
      refine x_lstore 68 C dX2_spellWhole_66 [(5, .long (v5 + (1 : Int64))), (0, .ref h0), (3, .long v3), (7, .int v7)] hl rfl rfl rfl (fun ls hl => ?_)
      refine x_goto 7 C dX2_spellWhole_68 rfl ?_
      exact hk7 m_count m_primeA m_primeB m_norms m_found_a m_found_b v3 (v5 + (1 : Int64)) _ _ _ X (lv_sub hl [1, 2, 0] rfl) hf
    refine x_aload_n 46 C dX2_spellWhole_45 hl 0 rfl rfl ?_
    refine x_lload 48 C dX2_spellWhole_46 hl 2 rfl rfl ?_
    obtain ⟨y48, hy48, hf⟩ := kx_bind hf
    refine x_callVv0 51 C dX2_spellWhole_48 X hl kl_X2_88 (c_X2_addWhole E.2.1 D T h0 h1 h2 h3 h4 h5 h6 h7 N v5 m_count m_threes m_unit m_primeA m_primeB m_norms m_found_a m_found_b y48 hy48) rfl rfl [] rfl rfl rfl rfl rfl rfl (fun H locs X => ?_)
    refine x_lload_n 52 C dX2_spellWhole_51 hl 1 rfl rfl ?_
    refine x_lload 54 C dX2_spellWhole_52 hl 2 rfl rfl ?_
    refine x_ldiv 55 C dX2_spellWhole_54 hf rfl (fun hf => ?_)
    refine x_lstore_n 56 C dX2_spellWhole_55 [(3, .long (v3 / v5)), (0, .ref h0), (5, .long v5), (7, .int v7)] hl rfl rfl rfl (fun ls hl => ?_)
    refine x_iinc 59 C dX2_spellWhole_56 (1 : Int32) kv_iconst_1 [(7, .int (v7 + (1 : Int32))), (3, .long (v3 / v5)), (0, .ref h0), (5, .long v5)] hl 3 rfl rfl rfl rfl (fun ls hl => ?_)
    refine x_goto 29 C dX2_spellWhole_59 rfl ?_
    exact ih y48.1 y48.2.1 y48.2.2.1 y48.2.2.2.1 y48.2.2.2.2.1 y48.2.2.2.2.2 (v3 / v5) v5 (v7 + (1 : Int32)) _ _ _ X (lv_sub hl [2, 1, 3, 0] rfl) hf
set_option maxHeartbeats 4000000 in
set_option maxRecDepth 100000 in
theorem w_X2_spellWhole_71 {E : KE} {A : Nat → Prop} {D : va_G} {T : KT} (h0 h1 h2 h3 h4 h5 h6 h7 : Nat) (C : kx_C E cX2_spellWhole 8 none RX2 4 91 D T) (N : Nat) (x : Int32 × (Nat → Int64) × (Nat → Int64) × (Nat → Int64) × Int64 × Int64) (m_threes m_unit : Int32) (R : kx_RV E cX2_spellWhole D A (w20_X2 T h0 h1 h2 h3 h4 h5 h6 h7 x.1 m_threes m_unit x.2.1 x.2.2.1 x.2.2.2.1 x.2.2.2.2.1 x.2.2.2.2.2)) : ∀ (m_count : Int32) (m_primeA m_primeB m_norms : Nat → Int64) (m_found_a m_found_b : Int64) (v3 : Int64) (H : Heap) (locs : List Loc) (ls : Array Slot), kx_H E D A H locs (w20_X2 T h0 h1 h2 h3 h4 h5 h6 h7 m_count m_threes m_unit m_primeA m_primeB m_norms m_found_a m_found_b) → lv_has ls 8 [(0, .ref h0), (3, .long v3)] → f_X2_spellWhole_71 N v3 m_count m_primeA m_primeB m_norms m_found_a m_found_b = some x → kx_W E H locs 71 ls [] := by
  intro m_count m_primeA m_primeB m_norms m_found_a m_found_b v3 H locs ls X hl hf
  rw [f_X2_spellWhole_71] at hf
  refine x_lload_n 72 C dX2_spellWhole_71 hl 1 rfl rfl ?_
  refine x_lconst 73 C dX2_spellWhole_72 (1 : Int64) kv_lconst_1 rfl ?_
  refine x_lcmp_le 82 74 77 C dX2_spellWhole_73 dX2_spellWhole_74 rfl rfl rfl hf (fun hf => ?_) (fun hf => ?_)
  · obtain rfl := Option.some.inj hf
    exact R _ _ _ _ X dX2_spellWhole_82
  refine x_aload_n 78 C dX2_spellWhole_77 hl 0 rfl rfl ?_
  refine x_lload_n 79 C dX2_spellWhole_78 hl 1 rfl rfl ?_
  obtain ⟨y79, hy79, hf⟩ := kx_bind hf
  refine x_callVv0 82 C dX2_spellWhole_79 X hl kl_X2_88 (c_X2_addWhole E.2.1 D T h0 h1 h2 h3 h4 h5 h6 h7 N v3 m_count m_threes m_unit m_primeA m_primeB m_norms m_found_a m_found_b y79 hy79) rfl rfl [] rfl rfl rfl rfl rfl rfl (fun H locs X => ?_)
  obtain rfl := Option.some.inj hf
  exact R _ _ _ _ X dX2_spellWhole_82
set_option maxHeartbeats 4000000 in
set_option maxRecDepth 100000 in
theorem w_X2_spellWhole_7 {E : KE} {A : Nat → Prop} {D : va_G} {T : KT} (h0 h1 h2 h3 h4 h5 h6 h7 : Nat) (C : kx_C E cX2_spellWhole 8 none RX2 4 91 D T) (N : Nat) (x : Int32 × (Nat → Int64) × (Nat → Int64) × (Nat → Int64) × Int64 × Int64) (m_threes m_unit : Int32) (R : kx_RV E cX2_spellWhole D A (w20_X2 T h0 h1 h2 h3 h4 h5 h6 h7 x.1 m_threes m_unit x.2.1 x.2.2.1 x.2.2.2.1 x.2.2.2.2.1 x.2.2.2.2.2)) : ∀ (k : Nat), ∀ (m_count : Int32) (m_primeA m_primeB m_norms : Nat → Int64) (m_found_a m_found_b : Int64) (v3 v5 : Int64) (H : Heap) (locs : List Loc) (ls : Array Slot), kx_H E D A H locs (w20_X2 T h0 h1 h2 h3 h4 h5 h6 h7 m_count m_threes m_unit m_primeA m_primeB m_norms m_found_a m_found_b) → lv_has ls 8 [(0, .ref h0), (3, .long v3), (5, .long v5)] → f_X2_spellWhole_7 N k v3 v5 m_count m_primeA m_primeB m_norms m_found_a m_found_b = some x → kx_W E H locs 7 ls [] := by
  intro k
  induction k with
  | zero =>
    intro m_count m_primeA m_primeB m_norms m_found_a m_found_b v3 v5 H locs ls X hl hf
    cases (show (none : Option (Int32 × (Nat → Int64) × (Nat → Int64) × (Nat → Int64) × Int64 × Int64)) = some x from hf)
  | succ k ih =>
    intro m_count m_primeA m_primeB m_norms m_found_a m_found_b v3 v5 H locs ls X hl hf
    rw [f_X2_spellWhole_7] at hf
    refine x_lload 9 C dX2_spellWhole_7 hl 2 rfl rfl ?_
    refine x_ldc2_w 12 C dX2_spellWhole_9 (100 : Int64) kc_X2_86 rfl ?_
    refine x_lcmp_gt 71 13 16 C dX2_spellWhole_12 dX2_spellWhole_13 rfl rfl rfl hf (fun hf => ?_) (fun hf => ?_)
    · exact w_X2_spellWhole_71 h0 h1 h2 h3 h4 h5 h6 h7 C N x m_threes m_unit R  m_count m_primeA m_primeB m_norms m_found_a m_found_b v3 _ _ _ X (lv_sub hl [0, 1] rfl) hf
    refine x_lload 18 C dX2_spellWhole_16 hl 2 rfl rfl ?_
    refine x_lload 20 C dX2_spellWhole_18 hl 2 rfl rfl ?_
    refine x_lmul 21 C dX2_spellWhole_20 rfl ?_
    refine x_lload_n 22 C dX2_spellWhole_21 hl 1 rfl rfl ?_
    refine x_lcmp_gt 71 23 26 C dX2_spellWhole_22 dX2_spellWhole_23 rfl rfl rfl hf (fun hf => ?_) (fun hf => ?_)
    · exact w_X2_spellWhole_71 h0 h1 h2 h3 h4 h5 h6 h7 C N x m_threes m_unit R  m_count m_primeA m_primeB m_norms m_found_a m_found_b v3 _ _ _ X (lv_sub hl [0, 1] rfl) hf
    refine x_iconst 27 C dX2_spellWhole_26 (0 : Int32) kv_iconst_0 rfl ?_
    refine x_istore 29 C dX2_spellWhole_27 [(7, .int (0 : Int32)), (0, .ref h0), (3, .long v3), (5, .long v5)] hl rfl rfl rfl (fun ls hl => ?_)
    exact w_X2_spellWhole_29 h0 h1 h2 h3 h4 h5 h6 h7 C N x m_threes m_unit R (f_X2_spellWhole_7 N k) ih N m_count m_primeA m_primeB m_norms m_found_a m_found_b v3 v5 (0 : Int32) _ _ _ X (lv_sub hl [1, 2, 3, 0] rfl) hf
set_option maxHeartbeats 4000000 in
set_option maxRecDepth 100000 in
theorem c_X2_spellWhole (l : Launch) (D : va_G) (T : KT) (h0 h1 h2 h3 h4 h5 h6 h7 : Nat) (N : Nat) (v1 : Int64) (m_count m_threes m_unit : Int32) (m_primeA m_primeB m_norms : Nat → Int64) (m_found_a m_found_b : Int64) (x : Int32 × (Nat → Int64) × (Nat → Int64) × (Nat → Int64) × Int64 × Int64) (hf : f_X2_spellWhole N v1 m_count m_primeA m_primeB m_norms m_found_a m_found_b = some x) : kx_MV l yX2_spellWhole cX2_spellWhole 8 none 4 91 D T [.ref h0, .long v1] (w20_X2 T h0 h1 h2 h3 h4 h5 h6 h7 m_count m_threes m_unit m_primeA m_primeB m_norms m_found_a m_found_b) (w20_X2 T h0 h1 h2 h3 h4 h5 h6 h7 x.1 m_threes m_unit x.2.1 x.2.2.1 x.2.2.2.1 x.2.2.2.2.1 x.2.2.2.2.2) := by
  refine kx_ofMV RX2 rfl (plainFor_of_name (x := yX2_spellWhole) kpn_X2) rfl ?_
  intro E A H ls _ C X R hl
  have hl : lv_has ls 8 [(0, .ref h0), (1, .long v1)] := hl
  rw [f_X2_spellWhole] at hf
  refine x_lload_n 1 C dX2_spellWhole_0 hl 1 rfl rfl ?_
  refine x_lstore_n 2 C dX2_spellWhole_1 [(3, .long v1), (0, .ref h0), (1, .long v1)] hl rfl rfl rfl (fun ls hl => ?_)
  refine x_ldc2_w 5 C dX2_spellWhole_2 (2 : Int64) kc_X2_84 rfl ?_
  refine x_lstore 7 C dX2_spellWhole_5 [(5, .long (2 : Int64)), (3, .long v1), (0, .ref h0), (1, .long v1)] hl rfl rfl rfl (fun ls hl => ?_)
  exact w_X2_spellWhole_7 h0 h1 h2 h3 h4 h5 h6 h7 C N x m_threes m_unit R  N m_count m_primeA m_primeB m_norms m_found_a m_found_b v1 (2 : Int64) _ _ _ X (lv_sub hl [2, 1, 0] rfl) hf
set_option maxHeartbeats 4000000 in
set_option maxRecDepth 100000 in
theorem c_J9_floorDiv_f86c9 (l : Launch) (D : va_G) (T : KT)  (v0 v2 : Int64)  (x : Int64) (hf : f_J9_floorDiv_f86c9 v0 v2 = some x) : kx_ML l yJ9_floorDiv_f86c9 cJ9_floorDiv_f86c9 6 (some .long) 0 0 D T [.long v0, .long v2] (w4_ T  ) (w4_ T  ) x := by
  refine kx_ofML RJ9 rfl (by decide +kernel) rfl ?_
  intro E A H ls _ C X R hl
  have hl : lv_has ls 6 [(0, .long v0), (2, .long v2)] := hl
  rw [f_J9_floorDiv_f86c9] at hf
  refine x_lload_n 1 C dJ9_floorDiv_f86c9_0 hl 0 rfl rfl ?_
  refine x_lload_n 2 C dJ9_floorDiv_f86c9_1 hl 1 rfl rfl ?_
  refine x_ldiv 3 C dJ9_floorDiv_f86c9_2 hf rfl (fun hf => ?_)
  refine x_lstore 5 C dJ9_floorDiv_f86c9_3 [(4, .long (v0 / v2)), (0, .long v0), (2, .long v2)] hl rfl rfl rfl (fun ls hl => ?_)
  refine x_lload_n 6 C dJ9_floorDiv_f86c9_5 hl 1 rfl rfl ?_
  refine x_lload_n 7 C dJ9_floorDiv_f86c9_6 hl 2 rfl rfl ?_
  refine x_lxor 8 C dJ9_floorDiv_f86c9_7 rfl ?_
  refine x_lconst 9 C dJ9_floorDiv_f86c9_8 (0 : Int64) kv_lconst_0 rfl ?_
  refine x_lcmp_ge 27 10 13 C dJ9_floorDiv_f86c9_9 dJ9_floorDiv_f86c9_10 rfl rfl rfl hf (fun hf => ?_) (fun hf => ?_)
  · refine x_lload 29 C dJ9_floorDiv_f86c9_27 hl 0 rfl rfl ?_
    obtain rfl := Option.some.inj hf
    exact R _ _ _ _ X dJ9_floorDiv_f86c9_29
  refine x_lload 15 C dJ9_floorDiv_f86c9_13 hl 0 rfl rfl ?_
  refine x_lload_n 16 C dJ9_floorDiv_f86c9_15 hl 2 rfl rfl ?_
  refine x_lmul 17 C dJ9_floorDiv_f86c9_16 rfl ?_
  refine x_lload_n 18 C dJ9_floorDiv_f86c9_17 hl 1 rfl rfl ?_
  refine x_lcmp_eq 27 19 22 C dJ9_floorDiv_f86c9_18 dJ9_floorDiv_f86c9_19 rfl rfl rfl hf (fun hf => ?_) (fun hf => ?_)
  · refine x_lload 29 C dJ9_floorDiv_f86c9_27 hl 0 rfl rfl ?_
    obtain rfl := Option.some.inj hf
    exact R _ _ _ _ X dJ9_floorDiv_f86c9_29
  refine x_lload 24 C dJ9_floorDiv_f86c9_22 hl 0 rfl rfl ?_
  refine x_lconst 25 C dJ9_floorDiv_f86c9_24 (1 : Int64) kv_lconst_1 rfl ?_
  refine x_lsub 26 C dJ9_floorDiv_f86c9_25 rfl ?_
  obtain rfl := Option.some.inj hf
  exact R _ _ _ _ X dJ9_floorDiv_f86c9_26
set_option maxHeartbeats 4000000 in
set_option maxRecDepth 100000 in
theorem c_X5_becomeQuotient (l : Launch) (D : va_G) (T : KT) (h0 h1 h2 : Nat)  (m_a m_b m_p1_a m_p1_b m_p2_a m_p2_b : Int64) (x : Int64 × Int64) (hf : f_X5_becomeQuotient m_p1_a m_p1_b m_p2_a m_p2_b = some x) : kx_MV l yX5_becomeQuotient cX5_becomeQuotient 9 none 1 25 D T [.ref h0, .ref h1, .ref h2] (w16_X5 T h0 h1 h2 m_a m_b m_p1_a m_p1_b m_p2_a m_p2_b) (w16_X5 T h0 h1 h2 x.1 x.2 m_p1_a m_p1_b m_p2_a m_p2_b) := by
  refine kx_ofMV RX5 rfl (plainFor_of_name (x := yX5_becomeQuotient) kpn_X5) rfl ?_
  intro E A H ls _ C X R hl
  have hl : lv_has ls 9 [(0, .ref h0), (1, .ref h1), (2, .ref h2)] := hl
  rw [f_X5_becomeQuotient] at hf
  refine x_aload_n 1 C dX5_becomeQuotient_0 hl 2 rfl rfl ?_
  obtain ⟨y1, hy1, hf⟩ := kx_bind hf
  refine x_callVl 4 C dX5_becomeQuotient_1 X hl kl_X5_22 (c_X5_norm E.2.1 D T h2  m_p2_a m_p2_b y1 hy1) rfl rfl [] rfl rfl rfl rfl rfl cb_46 rfl (fun H locs X => ?_)
  refine x_lstore_n 5 C dX5_becomeQuotient_4 [(3, .long y1), (0, .ref h0), (1, .ref h1), (2, .ref h2)] hl rfl rfl rfl (fun ls hl => ?_)
  refine x_lload_n 6 C dX5_becomeQuotient_5 hl 0 rfl rfl ?_
  refine x_lconst 7 C dX5_becomeQuotient_6 (1 : Int64) kv_lconst_1 rfl ?_
  refine x_lcmp_ge 18 8 11 C dX5_becomeQuotient_7 dX5_becomeQuotient_8 rfl rfl rfl hf (fun hf => ?_) (fun hf => ?_)
  · refine x_aload_n 19 C dX5_becomeQuotient_18 hl 2 rfl rfl ?_
    refine x_get 22 C dX5_becomeQuotient_19 X kf_X5_9 1 rfl rfl rfl ?_
    refine x_aload_n 23 C dX5_becomeQuotient_22 hl 3 rfl rfl ?_
    refine x_get 26 C dX5_becomeQuotient_23 X kf_X5_9 2 rfl rfl rfl ?_
    refine x_aload_n 27 C dX5_becomeQuotient_26 hl 3 rfl rfl ?_
    refine x_get 30 C dX5_becomeQuotient_27 X kf_X5_15 2 rfl rfl rfl ?_
    refine x_lsub 31 C dX5_becomeQuotient_30 rfl ?_
    refine x_lmul 32 C dX5_becomeQuotient_31 rfl ?_
    refine x_aload_n 33 C dX5_becomeQuotient_32 hl 2 rfl rfl ?_
    refine x_get 36 C dX5_becomeQuotient_33 X kf_X5_15 1 rfl rfl rfl ?_
    refine x_aload_n 37 C dX5_becomeQuotient_36 hl 3 rfl rfl ?_
    refine x_get 40 C dX5_becomeQuotient_37 X kf_X5_15 2 rfl rfl rfl ?_
    refine x_lmul 41 C dX5_becomeQuotient_40 rfl ?_
    refine x_ladd 42 C dX5_becomeQuotient_41 rfl ?_
    refine x_lstore 44 C dX5_becomeQuotient_42 [(5, .long ((m_p1_a * (m_p2_a - m_p2_b)) + (m_p1_b * m_p2_b))), (3, .long y1), (0, .ref h0), (1, .ref h1), (2, .ref h2)] hl rfl rfl rfl (fun ls hl => ?_)
    refine x_aload_n 45 C dX5_becomeQuotient_44 hl 3 rfl rfl ?_
    refine x_get 48 C dX5_becomeQuotient_45 X kf_X5_15 1 rfl rfl rfl ?_
    refine x_aload_n 49 C dX5_becomeQuotient_48 hl 4 rfl rfl ?_
    refine x_get 52 C dX5_becomeQuotient_49 X kf_X5_9 2 rfl rfl rfl ?_
    refine x_lmul 53 C dX5_becomeQuotient_52 rfl ?_
    refine x_aload_n 54 C dX5_becomeQuotient_53 hl 3 rfl rfl ?_
    refine x_get 57 C dX5_becomeQuotient_54 X kf_X5_9 1 rfl rfl rfl ?_
    refine x_aload_n 58 C dX5_becomeQuotient_57 hl 4 rfl rfl ?_
    refine x_get 61 C dX5_becomeQuotient_58 X kf_X5_15 2 rfl rfl rfl ?_
    refine x_lmul 62 C dX5_becomeQuotient_61 rfl ?_
    refine x_lsub 63 C dX5_becomeQuotient_62 rfl ?_
    refine x_lstore 65 C dX5_becomeQuotient_63 [(7, .long ((m_p1_b * m_p2_a) - (m_p1_a * m_p2_b))), (5, .long ((m_p1_a * (m_p2_a - m_p2_b)) + (m_p1_b * m_p2_b))), (3, .long y1), (0, .ref h0), (1, .ref h1), (2, .ref h2)] hl rfl rfl rfl (fun ls hl => ?_)
    refine x_aload_n 66 C dX5_becomeQuotient_65 hl 3 rfl rfl ?_
    refine x_ldc2_w 69 C dX5_becomeQuotient_66 (2 : Int64) kc_X5_34 rfl ?_
    refine x_lload 71 C dX5_becomeQuotient_69 hl 1 rfl rfl ?_
    refine x_lmul 72 C dX5_becomeQuotient_71 rfl ?_
    refine x_lload_n 73 C dX5_becomeQuotient_72 hl 2 rfl rfl ?_
    refine x_ladd 74 C dX5_becomeQuotient_73 rfl ?_
    refine x_ldc2_w 77 C dX5_becomeQuotient_74 (2 : Int64) kc_X5_34 rfl ?_
    refine x_lload_n 78 C dX5_becomeQuotient_77 hl 2 rfl rfl ?_
    refine x_lmul 79 C dX5_becomeQuotient_78 rfl ?_
    obtain ⟨y79, hy79, hf⟩ := kx_bind hf
    refine x_callSl 82 C dX5_becomeQuotient_79 X hl kl_X5_55 (c_J9_floorDiv_f86c9 E.2.1 D T  (((2 : Int64) * ((m_p1_a * (m_p2_a - m_p2_b)) + (m_p1_b * m_p2_b))) + y1) ((2 : Int64) * y1)  y79 hy79) [.ref h0] rfl rfl rfl rfl rfl cb_47 rfl (fun H locs X => ?_)
    refine x_put 85 C dX5_becomeQuotient_82 X kp_X5_9 0 rfl rfl rfl rfl (w16_X5 T h0 h1 h2 y79 m_b m_p1_a m_p1_b m_p2_a m_p2_b) rfl rfl (fun H locs X => ?_)
    refine x_aload_n 86 C dX5_becomeQuotient_85 hl 3 rfl rfl ?_
    refine x_ldc2_w 89 C dX5_becomeQuotient_86 (2 : Int64) kc_X5_34 rfl ?_
    refine x_lload 91 C dX5_becomeQuotient_89 hl 0 rfl rfl ?_
    refine x_lmul 92 C dX5_becomeQuotient_91 rfl ?_
    refine x_lload_n 93 C dX5_becomeQuotient_92 hl 2 rfl rfl ?_
    refine x_ladd 94 C dX5_becomeQuotient_93 rfl ?_
    refine x_ldc2_w 97 C dX5_becomeQuotient_94 (2 : Int64) kc_X5_34 rfl ?_
    refine x_lload_n 98 C dX5_becomeQuotient_97 hl 2 rfl rfl ?_
    refine x_lmul 99 C dX5_becomeQuotient_98 rfl ?_
    obtain ⟨y99, hy99, hf⟩ := kx_bind hf
    refine x_callSl 102 C dX5_becomeQuotient_99 X hl kl_X5_55 (c_J9_floorDiv_f86c9 E.2.1 D T  (((2 : Int64) * ((m_p1_b * m_p2_a) - (m_p1_a * m_p2_b))) + y1) ((2 : Int64) * y1)  y99 hy99) [.ref h0] rfl rfl rfl rfl rfl cb_47 rfl (fun H locs X => ?_)
    refine x_put 105 C dX5_becomeQuotient_102 X kp_X5_15 0 rfl rfl rfl rfl (w16_X5 T h0 h1 h2 y79 y99 m_p1_a m_p1_b m_p2_a m_p2_b) rfl rfl (fun H locs X => ?_)
    obtain rfl := Option.some.inj hf
    exact R _ _ _ _ X dX5_becomeQuotient_105
  refine x_aload_n 12 C dX5_becomeQuotient_11 hl 1 rfl rfl ?_
  refine x_lconst 13 C dX5_becomeQuotient_12 (0 : Int64) kv_lconst_0 rfl ?_
  refine x_lconst 14 C dX5_becomeQuotient_13 (0 : Int64) kv_lconst_0 rfl ?_
  obtain ⟨y14, hy14, hf⟩ := kx_bind hf
  refine x_callVv 17 C dX5_becomeQuotient_14 X hl kl_X5_44 (c_X5_set E.2.1 D T h0 (0 : Int64) (0 : Int64) m_a m_b y14 hy14) rfl rfl [] rfl rfl rfl rfl rfl cb_48 rfl (fun H locs X => ?_)
  obtain rfl := Option.some.inj hf
  exact R _ _ _ _ X dX5_becomeQuotient_17
set_option maxHeartbeats 4000000 in
set_option maxRecDepth 100000 in
theorem c_X1_goOn_p1_last_p2_next (l : Launch) (D : va_G) (T : KT) (h0 h1 h2 h3 h4 h5 h6 h7 h8 h9 : Nat)  (m_count : Int32) (m_last_a m_last_b m_next_a m_next_b m_q_a m_q_b : Int64) (x : Int64 × Int64 × Int64 × Int64) (hf : f_X1_goOn m_q_a m_q_b m_last_a m_last_b m_next_a m_next_b = some x) : kx_MV l yX1_goOn cX1_goOn 9 none 0 0 D T [.ref h0, .ref h1, .ref h4] (w25_X1 T h0 h1 h2 h3 h4 h5 h6 h7 h8 h9 m_count m_last_a m_last_b m_next_a m_next_b m_q_a m_q_b) (w25_X1 T h0 h1 h2 h3 h4 h5 h6 h7 h8 h9 m_count x.1 x.2.1 x.2.2.1 x.2.2.2 m_q_a m_q_b) := by
  refine kx_ofMV RX1 rfl (plainFor_of_name (x := yX1_goOn) kpn_X1) rfl ?_
  intro E A H ls _ C X R hl
  have hl : lv_has ls 9 [(0, .ref h0), (1, .ref h1), (2, .ref h4)] := hl
  rw [f_X1_goOn] at hf
  refine x_aload_n 1 C dX1_goOn_0 hl 2 rfl rfl ?_
  refine x_get 4 C dX1_goOn_1 X kf_X1_65 2 rfl rfl rfl ?_
  refine x_aload_n 5 C dX1_goOn_4 hl 0 rfl rfl ?_
  refine x_get 8 C dX1_goOn_5 X kf_X1_31 0 rfl rfl rfl ?_
  refine x_get 11 C dX1_goOn_8 X kf_X1_65 3 rfl rfl rfl ?_
  refine x_lmul 12 C dX1_goOn_11 rfl ?_
  refine x_lstore_n 13 C dX1_goOn_12 [(3, .long (m_next_b * m_q_b)), (0, .ref h0), (1, .ref h1), (2, .ref h4)] hl rfl rfl rfl (fun ls hl => ?_)
  refine x_aload_n 14 C dX1_goOn_13 hl 2 rfl rfl ?_
  refine x_get 17 C dX1_goOn_14 X kf_X1_61 1 rfl rfl rfl ?_
  refine x_aload_n 18 C dX1_goOn_17 hl 3 rfl rfl ?_
  refine x_get 21 C dX1_goOn_18 X kf_X1_61 2 rfl rfl rfl ?_
  refine x_aload_n 22 C dX1_goOn_21 hl 1 rfl rfl ?_
  refine x_get 25 C dX1_goOn_22 X kf_X1_31 0 rfl rfl rfl ?_
  refine x_get 28 C dX1_goOn_25 X kf_X1_61 3 rfl rfl rfl ?_
  refine x_lmul 29 C dX1_goOn_28 rfl ?_
  refine x_lload_n 30 C dX1_goOn_29 hl 0 rfl rfl ?_
  refine x_lsub 31 C dX1_goOn_30 rfl ?_
  refine x_lsub 32 C dX1_goOn_31 rfl ?_
  refine x_lstore 34 C dX1_goOn_32 [(5, .long (m_last_a - ((m_next_a * m_q_a) - (m_next_b * m_q_b)))), (3, .long (m_next_b * m_q_b)), (0, .ref h0), (1, .ref h1), (2, .ref h4)] hl rfl rfl rfl (fun ls hl => ?_)
  refine x_aload_n 35 C dX1_goOn_34 hl 3 rfl rfl ?_
  refine x_get 38 C dX1_goOn_35 X kf_X1_65 1 rfl rfl rfl ?_
  refine x_aload_n 39 C dX1_goOn_38 hl 4 rfl rfl ?_
  refine x_get 42 C dX1_goOn_39 X kf_X1_61 2 rfl rfl rfl ?_
  refine x_aload_n 43 C dX1_goOn_42 hl 2 rfl rfl ?_
  refine x_get 46 C dX1_goOn_43 X kf_X1_31 0 rfl rfl rfl ?_
  refine x_get 49 C dX1_goOn_46 X kf_X1_65 3 rfl rfl rfl ?_
  refine x_lmul 50 C dX1_goOn_49 rfl ?_
  refine x_aload_n 51 C dX1_goOn_50 hl 4 rfl rfl ?_
  refine x_get 54 C dX1_goOn_51 X kf_X1_65 2 rfl rfl rfl ?_
  refine x_aload_n 55 C dX1_goOn_54 hl 2 rfl rfl ?_
  refine x_get 58 C dX1_goOn_55 X kf_X1_31 0 rfl rfl rfl ?_
  refine x_get 61 C dX1_goOn_58 X kf_X1_61 3 rfl rfl rfl ?_
  refine x_lmul 62 C dX1_goOn_61 rfl ?_
  refine x_ladd 63 C dX1_goOn_62 rfl ?_
  refine x_lload_n 64 C dX1_goOn_63 hl 1 rfl rfl ?_
  refine x_lsub 65 C dX1_goOn_64 rfl ?_
  refine x_lsub 66 C dX1_goOn_65 rfl ?_
  refine x_lstore 68 C dX1_goOn_66 [(7, .long (m_last_b - (((m_next_a * m_q_b) + (m_next_b * m_q_a)) - (m_next_b * m_q_b)))), (5, .long (m_last_a - ((m_next_a * m_q_a) - (m_next_b * m_q_b)))), (3, .long (m_next_b * m_q_b)), (0, .ref h0), (1, .ref h1), (2, .ref h4)] hl rfl rfl rfl (fun ls hl => ?_)
  refine x_aload_n 69 C dX1_goOn_68 hl 4 rfl rfl ?_
  refine x_aload_n 70 C dX1_goOn_69 hl 5 rfl rfl ?_
  refine x_get 73 C dX1_goOn_70 X kf_X1_61 2 rfl rfl rfl ?_
  refine x_put 76 C dX1_goOn_73 X kp_X1_61 1 rfl rfl rfl rfl (w25_X1 T h0 h1 h2 h3 h4 h5 h6 h7 h8 h9 m_count m_next_a m_last_b m_next_a m_next_b m_q_a m_q_b) rfl rfl (fun H locs X => ?_)
  refine x_aload_n 77 C dX1_goOn_76 hl 4 rfl rfl ?_
  refine x_aload_n 78 C dX1_goOn_77 hl 5 rfl rfl ?_
  refine x_get 81 C dX1_goOn_78 X kf_X1_65 2 rfl rfl rfl ?_
  refine x_put 84 C dX1_goOn_81 X kp_X1_65 1 rfl rfl rfl rfl (w25_X1 T h0 h1 h2 h3 h4 h5 h6 h7 h8 h9 m_count m_next_a m_next_b m_next_a m_next_b m_q_a m_q_b) rfl rfl (fun H locs X => ?_)
  refine x_aload_n 85 C dX1_goOn_84 hl 5 rfl rfl ?_
  refine x_lload 87 C dX1_goOn_85 hl 1 rfl rfl ?_
  refine x_put 90 C dX1_goOn_87 X kp_X1_61 2 rfl rfl rfl rfl (w25_X1 T h0 h1 h2 h3 h4 h5 h6 h7 h8 h9 m_count m_next_a m_next_b (m_last_a - ((m_next_a * m_q_a) - (m_next_b * m_q_b))) m_next_b m_q_a m_q_b) rfl rfl (fun H locs X => ?_)
  refine x_aload_n 91 C dX1_goOn_90 hl 5 rfl rfl ?_
  refine x_lload 93 C dX1_goOn_91 hl 0 rfl rfl ?_
  refine x_put 96 C dX1_goOn_93 X kp_X1_65 2 rfl rfl rfl rfl (w25_X1 T h0 h1 h2 h3 h4 h5 h6 h7 h8 h9 m_count m_next_a m_next_b (m_last_a - ((m_next_a * m_q_a) - (m_next_b * m_q_b))) (m_last_b - (((m_next_a * m_q_b) + (m_next_b * m_q_a)) - (m_next_b * m_q_b))) m_q_a m_q_b) rfl rfl (fun H locs X => ?_)
  obtain rfl := Option.some.inj hf
  exact R _ _ _ _ X dX1_goOn_96
set_option maxHeartbeats 4000000 in
set_option maxRecDepth 100000 in
theorem c_X1_goOn_p1_lastOfFirst_p2_nextOfFirst (l : Launch) (D : va_G) (T : KT) (h0 h1 h2 h3 h4 h5 h6 h7 h8 h9 : Nat)  (m_count : Int32) (m_lastOfFirst_a m_lastOfFirst_b m_nextOfFirst_a m_nextOfFirst_b m_q_a m_q_b : Int64) (x : Int64 × Int64 × Int64 × Int64) (hf : f_X1_goOn m_q_a m_q_b m_lastOfFirst_a m_lastOfFirst_b m_nextOfFirst_a m_nextOfFirst_b = some x) : kx_MV l yX1_goOn cX1_goOn 9 none 0 0 D T [.ref h0, .ref h2, .ref h5] (w26_X1 T h0 h1 h2 h3 h4 h5 h6 h7 h8 h9 m_count m_lastOfFirst_a m_lastOfFirst_b m_nextOfFirst_a m_nextOfFirst_b m_q_a m_q_b) (w26_X1 T h0 h1 h2 h3 h4 h5 h6 h7 h8 h9 m_count x.1 x.2.1 x.2.2.1 x.2.2.2 m_q_a m_q_b) := by
  refine kx_ofMV RX1 rfl (plainFor_of_name (x := yX1_goOn) kpn_X1) rfl ?_
  intro E A H ls _ C X R hl
  have hl : lv_has ls 9 [(0, .ref h0), (1, .ref h2), (2, .ref h5)] := hl
  rw [f_X1_goOn] at hf
  refine x_aload_n 1 C dX1_goOn_0 hl 2 rfl rfl ?_
  refine x_get 4 C dX1_goOn_1 X kf_X1_65 2 rfl rfl rfl ?_
  refine x_aload_n 5 C dX1_goOn_4 hl 0 rfl rfl ?_
  refine x_get 8 C dX1_goOn_5 X kf_X1_31 0 rfl rfl rfl ?_
  refine x_get 11 C dX1_goOn_8 X kf_X1_65 3 rfl rfl rfl ?_
  refine x_lmul 12 C dX1_goOn_11 rfl ?_
  refine x_lstore_n 13 C dX1_goOn_12 [(3, .long (m_nextOfFirst_b * m_q_b)), (0, .ref h0), (1, .ref h2), (2, .ref h5)] hl rfl rfl rfl (fun ls hl => ?_)
  refine x_aload_n 14 C dX1_goOn_13 hl 2 rfl rfl ?_
  refine x_get 17 C dX1_goOn_14 X kf_X1_61 1 rfl rfl rfl ?_
  refine x_aload_n 18 C dX1_goOn_17 hl 3 rfl rfl ?_
  refine x_get 21 C dX1_goOn_18 X kf_X1_61 2 rfl rfl rfl ?_
  refine x_aload_n 22 C dX1_goOn_21 hl 1 rfl rfl ?_
  refine x_get 25 C dX1_goOn_22 X kf_X1_31 0 rfl rfl rfl ?_
  refine x_get 28 C dX1_goOn_25 X kf_X1_61 3 rfl rfl rfl ?_
  refine x_lmul 29 C dX1_goOn_28 rfl ?_
  refine x_lload_n 30 C dX1_goOn_29 hl 0 rfl rfl ?_
  refine x_lsub 31 C dX1_goOn_30 rfl ?_
  refine x_lsub 32 C dX1_goOn_31 rfl ?_
  refine x_lstore 34 C dX1_goOn_32 [(5, .long (m_lastOfFirst_a - ((m_nextOfFirst_a * m_q_a) - (m_nextOfFirst_b * m_q_b)))), (3, .long (m_nextOfFirst_b * m_q_b)), (0, .ref h0), (1, .ref h2), (2, .ref h5)] hl rfl rfl rfl (fun ls hl => ?_)
  refine x_aload_n 35 C dX1_goOn_34 hl 3 rfl rfl ?_
  refine x_get 38 C dX1_goOn_35 X kf_X1_65 1 rfl rfl rfl ?_
  refine x_aload_n 39 C dX1_goOn_38 hl 4 rfl rfl ?_
  refine x_get 42 C dX1_goOn_39 X kf_X1_61 2 rfl rfl rfl ?_
  refine x_aload_n 43 C dX1_goOn_42 hl 2 rfl rfl ?_
  refine x_get 46 C dX1_goOn_43 X kf_X1_31 0 rfl rfl rfl ?_
  refine x_get 49 C dX1_goOn_46 X kf_X1_65 3 rfl rfl rfl ?_
  refine x_lmul 50 C dX1_goOn_49 rfl ?_
  refine x_aload_n 51 C dX1_goOn_50 hl 4 rfl rfl ?_
  refine x_get 54 C dX1_goOn_51 X kf_X1_65 2 rfl rfl rfl ?_
  refine x_aload_n 55 C dX1_goOn_54 hl 2 rfl rfl ?_
  refine x_get 58 C dX1_goOn_55 X kf_X1_31 0 rfl rfl rfl ?_
  refine x_get 61 C dX1_goOn_58 X kf_X1_61 3 rfl rfl rfl ?_
  refine x_lmul 62 C dX1_goOn_61 rfl ?_
  refine x_ladd 63 C dX1_goOn_62 rfl ?_
  refine x_lload_n 64 C dX1_goOn_63 hl 1 rfl rfl ?_
  refine x_lsub 65 C dX1_goOn_64 rfl ?_
  refine x_lsub 66 C dX1_goOn_65 rfl ?_
  refine x_lstore 68 C dX1_goOn_66 [(7, .long (m_lastOfFirst_b - (((m_nextOfFirst_a * m_q_b) + (m_nextOfFirst_b * m_q_a)) - (m_nextOfFirst_b * m_q_b)))), (5, .long (m_lastOfFirst_a - ((m_nextOfFirst_a * m_q_a) - (m_nextOfFirst_b * m_q_b)))), (3, .long (m_nextOfFirst_b * m_q_b)), (0, .ref h0), (1, .ref h2), (2, .ref h5)] hl rfl rfl rfl (fun ls hl => ?_)
  refine x_aload_n 69 C dX1_goOn_68 hl 4 rfl rfl ?_
  refine x_aload_n 70 C dX1_goOn_69 hl 5 rfl rfl ?_
  refine x_get 73 C dX1_goOn_70 X kf_X1_61 2 rfl rfl rfl ?_
  refine x_put 76 C dX1_goOn_73 X kp_X1_61 1 rfl rfl rfl rfl (w26_X1 T h0 h1 h2 h3 h4 h5 h6 h7 h8 h9 m_count m_nextOfFirst_a m_lastOfFirst_b m_nextOfFirst_a m_nextOfFirst_b m_q_a m_q_b) rfl rfl (fun H locs X => ?_)
  refine x_aload_n 77 C dX1_goOn_76 hl 4 rfl rfl ?_
  refine x_aload_n 78 C dX1_goOn_77 hl 5 rfl rfl ?_
  refine x_get 81 C dX1_goOn_78 X kf_X1_65 2 rfl rfl rfl ?_
  refine x_put 84 C dX1_goOn_81 X kp_X1_65 1 rfl rfl rfl rfl (w26_X1 T h0 h1 h2 h3 h4 h5 h6 h7 h8 h9 m_count m_nextOfFirst_a m_nextOfFirst_b m_nextOfFirst_a m_nextOfFirst_b m_q_a m_q_b) rfl rfl (fun H locs X => ?_)
  refine x_aload_n 85 C dX1_goOn_84 hl 5 rfl rfl ?_
  refine x_lload 87 C dX1_goOn_85 hl 1 rfl rfl ?_
  refine x_put 90 C dX1_goOn_87 X kp_X1_61 2 rfl rfl rfl rfl (w26_X1 T h0 h1 h2 h3 h4 h5 h6 h7 h8 h9 m_count m_nextOfFirst_a m_nextOfFirst_b (m_lastOfFirst_a - ((m_nextOfFirst_a * m_q_a) - (m_nextOfFirst_b * m_q_b))) m_nextOfFirst_b m_q_a m_q_b) rfl rfl (fun H locs X => ?_)
  refine x_aload_n 91 C dX1_goOn_90 hl 5 rfl rfl ?_
  refine x_lload 93 C dX1_goOn_91 hl 0 rfl rfl ?_
  refine x_put 96 C dX1_goOn_93 X kp_X1_65 2 rfl rfl rfl rfl (w26_X1 T h0 h1 h2 h3 h4 h5 h6 h7 h8 h9 m_count m_nextOfFirst_a m_nextOfFirst_b (m_lastOfFirst_a - ((m_nextOfFirst_a * m_q_a) - (m_nextOfFirst_b * m_q_b))) (m_lastOfFirst_b - (((m_nextOfFirst_a * m_q_b) + (m_nextOfFirst_b * m_q_a)) - (m_nextOfFirst_b * m_q_b))) m_q_a m_q_b) rfl rfl (fun H locs X => ?_)
  obtain rfl := Option.some.inj hf
  exact R _ _ _ _ X dX1_goOn_96
set_option maxHeartbeats 4000000 in
set_option maxRecDepth 100000 in
theorem c_X1_goOn_p1_lastOfSecond_p2_nextOfSecond (l : Launch) (D : va_G) (T : KT) (h0 h1 h2 h3 h4 h5 h6 h7 h8 h9 : Nat)  (m_count : Int32) (m_lastOfSecond_a m_lastOfSecond_b m_nextOfSecond_a m_nextOfSecond_b m_q_a m_q_b : Int64) (x : Int64 × Int64 × Int64 × Int64) (hf : f_X1_goOn m_q_a m_q_b m_lastOfSecond_a m_lastOfSecond_b m_nextOfSecond_a m_nextOfSecond_b = some x) : kx_MV l yX1_goOn cX1_goOn 9 none 0 0 D T [.ref h0, .ref h3, .ref h6] (w27_X1 T h0 h1 h2 h3 h4 h5 h6 h7 h8 h9 m_count m_lastOfSecond_a m_lastOfSecond_b m_nextOfSecond_a m_nextOfSecond_b m_q_a m_q_b) (w27_X1 T h0 h1 h2 h3 h4 h5 h6 h7 h8 h9 m_count x.1 x.2.1 x.2.2.1 x.2.2.2 m_q_a m_q_b) := by
  refine kx_ofMV RX1 rfl (plainFor_of_name (x := yX1_goOn) kpn_X1) rfl ?_
  intro E A H ls _ C X R hl
  have hl : lv_has ls 9 [(0, .ref h0), (1, .ref h3), (2, .ref h6)] := hl
  rw [f_X1_goOn] at hf
  refine x_aload_n 1 C dX1_goOn_0 hl 2 rfl rfl ?_
  refine x_get 4 C dX1_goOn_1 X kf_X1_65 2 rfl rfl rfl ?_
  refine x_aload_n 5 C dX1_goOn_4 hl 0 rfl rfl ?_
  refine x_get 8 C dX1_goOn_5 X kf_X1_31 0 rfl rfl rfl ?_
  refine x_get 11 C dX1_goOn_8 X kf_X1_65 3 rfl rfl rfl ?_
  refine x_lmul 12 C dX1_goOn_11 rfl ?_
  refine x_lstore_n 13 C dX1_goOn_12 [(3, .long (m_nextOfSecond_b * m_q_b)), (0, .ref h0), (1, .ref h3), (2, .ref h6)] hl rfl rfl rfl (fun ls hl => ?_)
  refine x_aload_n 14 C dX1_goOn_13 hl 2 rfl rfl ?_
  refine x_get 17 C dX1_goOn_14 X kf_X1_61 1 rfl rfl rfl ?_
  refine x_aload_n 18 C dX1_goOn_17 hl 3 rfl rfl ?_
  refine x_get 21 C dX1_goOn_18 X kf_X1_61 2 rfl rfl rfl ?_
  refine x_aload_n 22 C dX1_goOn_21 hl 1 rfl rfl ?_
  refine x_get 25 C dX1_goOn_22 X kf_X1_31 0 rfl rfl rfl ?_
  refine x_get 28 C dX1_goOn_25 X kf_X1_61 3 rfl rfl rfl ?_
  refine x_lmul 29 C dX1_goOn_28 rfl ?_
  refine x_lload_n 30 C dX1_goOn_29 hl 0 rfl rfl ?_
  refine x_lsub 31 C dX1_goOn_30 rfl ?_
  refine x_lsub 32 C dX1_goOn_31 rfl ?_
  refine x_lstore 34 C dX1_goOn_32 [(5, .long (m_lastOfSecond_a - ((m_nextOfSecond_a * m_q_a) - (m_nextOfSecond_b * m_q_b)))), (3, .long (m_nextOfSecond_b * m_q_b)), (0, .ref h0), (1, .ref h3), (2, .ref h6)] hl rfl rfl rfl (fun ls hl => ?_)
  refine x_aload_n 35 C dX1_goOn_34 hl 3 rfl rfl ?_
  refine x_get 38 C dX1_goOn_35 X kf_X1_65 1 rfl rfl rfl ?_
  refine x_aload_n 39 C dX1_goOn_38 hl 4 rfl rfl ?_
  refine x_get 42 C dX1_goOn_39 X kf_X1_61 2 rfl rfl rfl ?_
  refine x_aload_n 43 C dX1_goOn_42 hl 2 rfl rfl ?_
  refine x_get 46 C dX1_goOn_43 X kf_X1_31 0 rfl rfl rfl ?_
  refine x_get 49 C dX1_goOn_46 X kf_X1_65 3 rfl rfl rfl ?_
  refine x_lmul 50 C dX1_goOn_49 rfl ?_
  refine x_aload_n 51 C dX1_goOn_50 hl 4 rfl rfl ?_
  refine x_get 54 C dX1_goOn_51 X kf_X1_65 2 rfl rfl rfl ?_
  refine x_aload_n 55 C dX1_goOn_54 hl 2 rfl rfl ?_
  refine x_get 58 C dX1_goOn_55 X kf_X1_31 0 rfl rfl rfl ?_
  refine x_get 61 C dX1_goOn_58 X kf_X1_61 3 rfl rfl rfl ?_
  refine x_lmul 62 C dX1_goOn_61 rfl ?_
  refine x_ladd 63 C dX1_goOn_62 rfl ?_
  refine x_lload_n 64 C dX1_goOn_63 hl 1 rfl rfl ?_
  refine x_lsub 65 C dX1_goOn_64 rfl ?_
  refine x_lsub 66 C dX1_goOn_65 rfl ?_
  refine x_lstore 68 C dX1_goOn_66 [(7, .long (m_lastOfSecond_b - (((m_nextOfSecond_a * m_q_b) + (m_nextOfSecond_b * m_q_a)) - (m_nextOfSecond_b * m_q_b)))), (5, .long (m_lastOfSecond_a - ((m_nextOfSecond_a * m_q_a) - (m_nextOfSecond_b * m_q_b)))), (3, .long (m_nextOfSecond_b * m_q_b)), (0, .ref h0), (1, .ref h3), (2, .ref h6)] hl rfl rfl rfl (fun ls hl => ?_)
  refine x_aload_n 69 C dX1_goOn_68 hl 4 rfl rfl ?_
  refine x_aload_n 70 C dX1_goOn_69 hl 5 rfl rfl ?_
  refine x_get 73 C dX1_goOn_70 X kf_X1_61 2 rfl rfl rfl ?_
  refine x_put 76 C dX1_goOn_73 X kp_X1_61 1 rfl rfl rfl rfl (w27_X1 T h0 h1 h2 h3 h4 h5 h6 h7 h8 h9 m_count m_nextOfSecond_a m_lastOfSecond_b m_nextOfSecond_a m_nextOfSecond_b m_q_a m_q_b) rfl rfl (fun H locs X => ?_)
  refine x_aload_n 77 C dX1_goOn_76 hl 4 rfl rfl ?_
  refine x_aload_n 78 C dX1_goOn_77 hl 5 rfl rfl ?_
  refine x_get 81 C dX1_goOn_78 X kf_X1_65 2 rfl rfl rfl ?_
  refine x_put 84 C dX1_goOn_81 X kp_X1_65 1 rfl rfl rfl rfl (w27_X1 T h0 h1 h2 h3 h4 h5 h6 h7 h8 h9 m_count m_nextOfSecond_a m_nextOfSecond_b m_nextOfSecond_a m_nextOfSecond_b m_q_a m_q_b) rfl rfl (fun H locs X => ?_)
  refine x_aload_n 85 C dX1_goOn_84 hl 5 rfl rfl ?_
  refine x_lload 87 C dX1_goOn_85 hl 1 rfl rfl ?_
  refine x_put 90 C dX1_goOn_87 X kp_X1_61 2 rfl rfl rfl rfl (w27_X1 T h0 h1 h2 h3 h4 h5 h6 h7 h8 h9 m_count m_nextOfSecond_a m_nextOfSecond_b (m_lastOfSecond_a - ((m_nextOfSecond_a * m_q_a) - (m_nextOfSecond_b * m_q_b))) m_nextOfSecond_b m_q_a m_q_b) rfl rfl (fun H locs X => ?_)
  refine x_aload_n 91 C dX1_goOn_90 hl 5 rfl rfl ?_
  refine x_lload 93 C dX1_goOn_91 hl 0 rfl rfl ?_
  refine x_put 96 C dX1_goOn_93 X kp_X1_65 2 rfl rfl rfl rfl (w27_X1 T h0 h1 h2 h3 h4 h5 h6 h7 h8 h9 m_count m_nextOfSecond_a m_nextOfSecond_b (m_lastOfSecond_a - ((m_nextOfSecond_a * m_q_a) - (m_nextOfSecond_b * m_q_b))) (m_lastOfSecond_b - (((m_nextOfSecond_a * m_q_b) + (m_nextOfSecond_b * m_q_a)) - (m_nextOfSecond_b * m_q_b))) m_q_a m_q_b) rfl rfl (fun H locs X => ?_)
  obtain rfl := Option.some.inj hf
  exact R _ _ _ _ X dX1_goOn_96
set_option maxHeartbeats 4000000 in
set_option maxRecDepth 100000 in
theorem w_X1_part_59 {E : KE} {A : Nat → Prop} {D : va_G} {T : KT} (h0 h1 h2 h3 h4 h5 h6 h7 h8 h9 h10 h11 : Nat) (C : kx_C E cX1_part 4 none RX1 2 53 D T) (N : Nat) (x : Int32 × Int64 × Int64 × Int64 × Int64 × Int64 × Int64 × Int64 × Int64 × Int64 × Int64 × Int64 × Int64 × Int64 × Int64 × (Nat → Int64) × (Nat → Int64)) (m_p1_a m_p1_b m_p2_a m_p2_b : Int64) (R : kx_RV E cX1_part D A (w15_X1 T h0 h1 h2 h3 h4 h5 h6 h7 h8 h9 h10 h11 x.1 x.2.1 x.2.2.1 x.2.2.2.1 x.2.2.2.2.1 x.2.2.2.2.2.1 x.2.2.2.2.2.2.1 x.2.2.2.2.2.2.2.1 x.2.2.2.2.2.2.2.2.1 x.2.2.2.2.2.2.2.2.2.1 x.2.2.2.2.2.2.2.2.2.2.1 x.2.2.2.2.2.2.2.2.2.2.2.1 x.2.2.2.2.2.2.2.2.2.2.2.2.1 x.2.2.2.2.2.2.2.2.2.2.2.2.2.1 x.2.2.2.2.2.2.2.2.2.2.2.2.2.2.1 x.2.2.2.2.2.2.2.2.2.2.2.2.2.2.2.1 x.2.2.2.2.2.2.2.2.2.2.2.2.2.2.2.2 m_p1_a m_p1_b m_p2_a m_p2_b)) : ∀ (k : Nat), ∀ (m_count : Int32) (m_last_a m_last_b m_lastOfFirst_a m_lastOfFirst_b m_lastOfSecond_a m_lastOfSecond_b m_next_a m_next_b m_nextOfFirst_a m_nextOfFirst_b m_nextOfSecond_a m_nextOfSecond_b m_q_a m_q_b : Int64) (m_quotientA m_quotientB : Nat → Int64) (v3 : Int32) (H : Heap) (locs : List Loc) (ls : Array Slot), kx_H E D A H locs (w15_X1 T h0 h1 h2 h3 h4 h5 h6 h7 h8 h9 h10 h11 m_count m_last_a m_last_b m_lastOfFirst_a m_lastOfFirst_b m_lastOfSecond_a m_lastOfSecond_b m_next_a m_next_b m_nextOfFirst_a m_nextOfFirst_b m_nextOfSecond_a m_nextOfSecond_b m_q_a m_q_b m_quotientA m_quotientB m_p1_a m_p1_b m_p2_a m_p2_b) → lv_has ls 4 [(0, .ref h0), (3, .int v3)] → f_X1_part_59 N k v3 m_count m_last_a m_last_b m_lastOfFirst_a m_lastOfFirst_b m_lastOfSecond_a m_lastOfSecond_b m_next_a m_next_b m_nextOfFirst_a m_nextOfFirst_b m_nextOfSecond_a m_nextOfSecond_b m_q_a m_q_b m_quotientA m_quotientB = some x → kx_W E H locs 59 ls [] := by
  intro k
  induction k with
  | zero =>
    intro m_count m_last_a m_last_b m_lastOfFirst_a m_lastOfFirst_b m_lastOfSecond_a m_lastOfSecond_b m_next_a m_next_b m_nextOfFirst_a m_nextOfFirst_b m_nextOfSecond_a m_nextOfSecond_b m_q_a m_q_b m_quotientA m_quotientB v3 H locs ls X hl hf
    cases (show (none : Option (Int32 × Int64 × Int64 × Int64 × Int64 × Int64 × Int64 × Int64 × Int64 × Int64 × Int64 × Int64 × Int64 × Int64 × Int64 × (Nat → Int64) × (Nat → Int64))) = some x from hf)
  | succ k ih =>
    intro m_count m_last_a m_last_b m_lastOfFirst_a m_lastOfFirst_b m_lastOfSecond_a m_lastOfSecond_b m_next_a m_next_b m_nextOfFirst_a m_nextOfFirst_b m_nextOfSecond_a m_nextOfSecond_b m_q_a m_q_b m_quotientA m_quotientB v3 H locs ls X hl hf
    rw [f_X1_part_59] at hf
    refine x_iload_n 60 C dX1_part_59 hl 1 rfl rfl ?_
    refine x_sipush 63 C dX1_part_60 (128 : Int32) kv_sipush_128 rfl ?_
    refine x_icmp_ge 169 66 C dX1_part_63 rfl rfl hf (fun hf => ?_) (fun hf => ?_)
    · obtain rfl := Option.some.inj hf
      exact R _ _ _ _ X dX1_part_169
    refine x_aload_n 67 C dX1_part_66 hl 0 rfl rfl ?_
    refine x_get 70 C dX1_part_67 X kf_X1_22 0 rfl rfl rfl ?_
    obtain ⟨y70, hy70, hf⟩ := kx_bind hf
    refine x_callVi 73 C dX1_part_70 X hl kl_X1_53 (c_X5_isNought E.2.1 D T h4  m_next_a m_next_b y70 hy70) rfl rfl [] rfl rfl rfl rfl rfl cb_35 rfl (fun H locs X => ?_)
    refine x_if_ne 169 76 C dX1_part_73 rfl rfl hf (fun hf => ?_) (fun hf => ?_)
    · obtain rfl := Option.some.inj hf
      exact R _ _ _ _ X dX1_part_169
    refine x_aload_n 77 C dX1_part_76 hl 0 rfl rfl ?_
    refine x_get 80 C dX1_part_77 X kf_X1_31 0 rfl rfl rfl ?_
    refine x_aload_n 81 C dX1_part_80 hl 0 rfl rfl ?_
    refine x_get 84 C dX1_part_81 X kf_X1_10 0 rfl rfl rfl ?_
    refine x_aload_n 85 C dX1_part_84 hl 0 rfl rfl ?_
    refine x_get 88 C dX1_part_85 X kf_X1_22 0 rfl rfl rfl ?_
    obtain ⟨y88, hy88, hf⟩ := kx_bind hf
    refine x_callVv 91 C dX1_part_88 X hl kl_X1_57 (c_X5_becomeQuotient E.2.1 D T h7 h1 h4  m_q_a m_q_b m_last_a m_last_b m_next_a m_next_b y88 hy88) rfl rfl [] rfl rfl rfl rfl rfl cb_36 rfl (fun H locs X => ?_)
    refine x_aload_n 92 C dX1_part_91 hl 0 rfl rfl ?_
    refine x_get 95 C dX1_part_92 X kf_X1_34 0 rfl rfl rfl ?_
    refine x_iload_n 96 C dX1_part_95 hl 1 rfl rfl ?_
    refine x_aload_n 97 C dX1_part_96 hl 0 rfl rfl ?_
    refine x_get 100 C dX1_part_97 X kf_X1_31 0 rfl rfl rfl ?_
    refine x_get 103 C dX1_part_100 X kf_X1_61 7 rfl rfl rfl ?_
    refine x_last 104 C dX1_part_103 X 8 rfl (w15_X1 T h0 h1 h2 h3 h4 h5 h6 h7 h8 h9 h10 h11 m_count m_last_a m_last_b m_lastOfFirst_a m_lastOfFirst_b m_lastOfSecond_a m_lastOfSecond_b m_next_a m_next_b m_nextOfFirst_a m_nextOfFirst_b m_nextOfSecond_a m_nextOfSecond_b y88.1 y88.2 (vp_updL m_quotientA (v3).toNatClampNeg y88.1) m_quotientB m_p1_a m_p1_b m_p2_a m_p2_b) rfl hf rfl (fun H locs X hf => ?_)
    refine x_aload_n 105 C dX1_part_104 hl 0 rfl rfl ?_
    refine x_get 108 C dX1_part_105 X kf_X1_38 0 rfl rfl rfl ?_
    refine x_iload_n 109 C dX1_part_108 hl 1 rfl rfl ?_
    refine x_aload_n 110 C dX1_part_109 hl 0 rfl rfl ?_
    refine x_get 113 C dX1_part_110 X kf_X1_31 0 rfl rfl rfl ?_
    refine x_get 116 C dX1_part_113 X kf_X1_65 7 rfl rfl rfl ?_
    refine x_last 117 C dX1_part_116 X 9 rfl (w15_X1 T h0 h1 h2 h3 h4 h5 h6 h7 h8 h9 h10 h11 m_count m_last_a m_last_b m_lastOfFirst_a m_lastOfFirst_b m_lastOfSecond_a m_lastOfSecond_b m_next_a m_next_b m_nextOfFirst_a m_nextOfFirst_b m_nextOfSecond_a m_nextOfSecond_b y88.1 y88.2 (vp_updL m_quotientA (v3).toNatClampNeg y88.1) (vp_updL m_quotientB (v3).toNatClampNeg y88.2) m_p1_a m_p1_b m_p2_a m_p2_b) rfl hf rfl (fun H locs X hf => ?_)
    refine x_aload_n 118 C dX1_part_117 hl 0 rfl rfl ?_
    refine x_dup 119 C dX1_part_118 rfl rfl ?_
    refine x_get 122 C dX1_part_119 X kf_X1_49 0 rfl rfl rfl ?_
    refine x_iconst 123 C dX1_part_122 (1 : Int32) kv_iconst_1 rfl ?_
    refine x_iadd 124 C dX1_part_123 rfl ?_
    refine x_put 127 C dX1_part_124 X kp_X1_49 0 rfl rfl rfl rfl (w15_X1 T h0 h1 h2 h3 h4 h5 h6 h7 h8 h9 h10 h11 (m_count + (1 : Int32)) m_last_a m_last_b m_lastOfFirst_a m_lastOfFirst_b m_lastOfSecond_a m_lastOfSecond_b m_next_a m_next_b m_nextOfFirst_a m_nextOfFirst_b m_nextOfSecond_a m_nextOfSecond_b y88.1 y88.2 (vp_updL m_quotientA (v3).toNatClampNeg y88.1) (vp_updL m_quotientB (v3).toNatClampNeg y88.2) m_p1_a m_p1_b m_p2_a m_p2_b) rfl rfl (fun H locs X => ?_)
    refine x_aload_n 128 C dX1_part_127 hl 0 rfl rfl ?_
    refine x_aload_n 129 C dX1_part_128 hl 0 rfl rfl ?_
    refine x_get 132 C dX1_part_129 X kf_X1_10 0 rfl rfl rfl ?_
    refine x_aload_n 133 C dX1_part_132 hl 0 rfl rfl ?_
    refine x_get 136 C dX1_part_133 X kf_X1_22 0 rfl rfl rfl ?_
    obtain ⟨y136, hy136, hf⟩ := kx_bind hf
    refine x_callVv 139 C dX1_part_136 X hl kl_X1_68 (c_X1_goOn_p1_last_p2_next E.2.1 D T h0 h1 h2 h3 h4 h5 h6 h7 h8 h9  (m_count + (1 : Int32)) m_last_a m_last_b m_next_a m_next_b y88.1 y88.2 y136 hy136) rfl rfl [] rfl rfl rfl rfl rfl cb_37 rfl (fun H locs X => ?_)
    refine x_aload_n 140 C dX1_part_139 hl 0 rfl rfl ?_
    refine x_aload_n 141 C dX1_part_140 hl 0 rfl rfl ?_
    refine x_get 144 C dX1_part_141 X kf_X1_16 0 rfl rfl rfl ?_
    refine x_aload_n 145 C dX1_part_144 hl 0 rfl rfl ?_
    refine x_get 148 C dX1_part_145 X kf_X1_25 0 rfl rfl rfl ?_
    obtain ⟨y148, hy148, hf⟩ := kx_bind hf
    refine x_callVv 151 C dX1_part_148 X hl kl_X1_68 (c_X1_goOn_p1_lastOfFirst_p2_nextOfFirst E.2.1 D T h0 h1 h2 h3 h4 h5 h6 h7 h8 h9  (m_count + (1 : Int32)) m_lastOfFirst_a m_lastOfFirst_b m_nextOfFirst_a m_nextOfFirst_b y88.1 y88.2 y148 hy148) rfl rfl [] rfl rfl rfl rfl rfl cb_38 rfl (fun H locs X => ?_)
    refine x_aload_n 152 C dX1_part_151 hl 0 rfl rfl ?_
    refine x_aload_n 153 C dX1_part_152 hl 0 rfl rfl ?_
    refine x_get 156 C dX1_part_153 X kf_X1_19 0 rfl rfl rfl ?_
    refine x_aload_n 157 C dX1_part_156 hl 0 rfl rfl ?_
    refine x_get 160 C dX1_part_157 X kf_X1_28 0 rfl rfl rfl ?_
    obtain ⟨y160, hy160, hf⟩ := kx_bind hf
    refine x_callVv 163 C dX1_part_160 X hl kl_X1_68 (c_X1_goOn_p1_lastOfSecond_p2_nextOfSecond E.2.1 D T h0 h1 h2 h3 h4 h5 h6 h7 h8 h9  (m_count + (1 : Int32)) m_lastOfSecond_a m_lastOfSecond_b m_nextOfSecond_a m_nextOfSecond_b y88.1 y88.2 y160 hy160) rfl rfl [] rfl rfl rfl rfl rfl cb_39 rfl (fun H locs X => ?_)
    refine x_iinc 166 C dX1_part_163 (1 : Int32) kv_iconst_1 [(3, .int (v3 + (1 : Int32))), (0, .ref h0)] hl 1 rfl rfl rfl rfl (fun ls hl => ?_)
    refine x_goto 59 C dX1_part_166 rfl ?_
    exact ih (m_count + (1 : Int32)) y136.1 y136.2.1 y148.1 y148.2.1 y160.1 y160.2.1 y136.2.2.1 y136.2.2.2 y148.2.2.1 y148.2.2.2 y160.2.2.1 y160.2.2.2 y88.1 y88.2 (vp_updL m_quotientA (v3).toNatClampNeg y88.1) (vp_updL m_quotientB (v3).toNatClampNeg y88.2) (v3 + (1 : Int32)) _ _ _ X (lv_sub hl [1, 0] rfl) hf
set_option maxHeartbeats 4000000 in
set_option maxRecDepth 100000 in
theorem c_X1_part (l : Launch) (D : va_G) (T : KT) (h0 h1 h2 h3 h4 h5 h6 h7 h8 h9 h10 h11 : Nat) (N : Nat)  (m_count : Int32) (m_last_a m_last_b m_lastOfFirst_a m_lastOfFirst_b m_lastOfSecond_a m_lastOfSecond_b m_next_a m_next_b m_nextOfFirst_a m_nextOfFirst_b m_nextOfSecond_a m_nextOfSecond_b m_q_a m_q_b : Int64) (m_quotientA m_quotientB : Nat → Int64) (m_p1_a m_p1_b m_p2_a m_p2_b : Int64) (x : Int32 × Int64 × Int64 × Int64 × Int64 × Int64 × Int64 × Int64 × Int64 × Int64 × Int64 × Int64 × Int64 × Int64 × Int64 × (Nat → Int64) × (Nat → Int64)) (hf : f_X1_part N m_q_a m_q_b m_quotientA m_quotientB m_p1_a m_p1_b m_p2_a m_p2_b = some x) : kx_MV l yX1_part cX1_part 4 none 2 53 D T [.ref h0, .ref h10, .ref h11] (w15_X1 T h0 h1 h2 h3 h4 h5 h6 h7 h8 h9 h10 h11 m_count m_last_a m_last_b m_lastOfFirst_a m_lastOfFirst_b m_lastOfSecond_a m_lastOfSecond_b m_next_a m_next_b m_nextOfFirst_a m_nextOfFirst_b m_nextOfSecond_a m_nextOfSecond_b m_q_a m_q_b m_quotientA m_quotientB m_p1_a m_p1_b m_p2_a m_p2_b) (w15_X1 T h0 h1 h2 h3 h4 h5 h6 h7 h8 h9 h10 h11 x.1 x.2.1 x.2.2.1 x.2.2.2.1 x.2.2.2.2.1 x.2.2.2.2.2.1 x.2.2.2.2.2.2.1 x.2.2.2.2.2.2.2.1 x.2.2.2.2.2.2.2.2.1 x.2.2.2.2.2.2.2.2.2.1 x.2.2.2.2.2.2.2.2.2.2.1 x.2.2.2.2.2.2.2.2.2.2.2.1 x.2.2.2.2.2.2.2.2.2.2.2.2.1 x.2.2.2.2.2.2.2.2.2.2.2.2.2.1 x.2.2.2.2.2.2.2.2.2.2.2.2.2.2.1 x.2.2.2.2.2.2.2.2.2.2.2.2.2.2.2.1 x.2.2.2.2.2.2.2.2.2.2.2.2.2.2.2.2 m_p1_a m_p1_b m_p2_a m_p2_b) := by
  refine kx_ofMV RX1 rfl (plainFor_of_name (x := yX1_part) kpn_X1) rfl ?_
  intro E A H ls _ C X R hl
  have hl : lv_has ls 4 [(0, .ref h0), (1, .ref h10), (2, .ref h11)] := hl
  rw [f_X1_part] at hf
  refine x_aload_n 1 C dX1_part_0 hl 0 rfl rfl ?_
  refine x_get 4 C dX1_part_1 X kf_X1_10 0 rfl rfl rfl ?_
  refine x_aload_n 5 C dX1_part_4 hl 1 rfl rfl ?_
  obtain ⟨y5, hy5, hf⟩ := kx_bind hf
  refine x_callVv 8 C dX1_part_5 X hl kl_X1_41 (c_X5_copy E.2.1 D T h1 h10  m_last_a m_last_b m_p1_a m_p1_b y5 hy5) rfl rfl [] rfl rfl rfl rfl rfl cb_40 rfl (fun H locs X => ?_)
  refine x_aload_n 9 C dX1_part_8 hl 0 rfl rfl ?_
  refine x_get 12 C dX1_part_9 X kf_X1_16 0 rfl rfl rfl ?_
  refine x_lconst 13 C dX1_part_12 (1 : Int64) kv_lconst_1 rfl ?_
  refine x_lconst 14 C dX1_part_13 (0 : Int64) kv_lconst_0 rfl ?_
  obtain ⟨y14, hy14, hf⟩ := kx_bind hf
  refine x_callVv 17 C dX1_part_14 X hl kl_X1_45 (c_X5_set E.2.1 D T h2 (1 : Int64) (0 : Int64) m_lastOfFirst_a m_lastOfFirst_b y14 hy14) rfl rfl [] rfl rfl rfl rfl rfl cb_41 rfl (fun H locs X => ?_)
  refine x_aload_n 18 C dX1_part_17 hl 0 rfl rfl ?_
  refine x_get 21 C dX1_part_18 X kf_X1_19 0 rfl rfl rfl ?_
  refine x_lconst 22 C dX1_part_21 (0 : Int64) kv_lconst_0 rfl ?_
  refine x_lconst 23 C dX1_part_22 (0 : Int64) kv_lconst_0 rfl ?_
  obtain ⟨y23, hy23, hf⟩ := kx_bind hf
  refine x_callVv 26 C dX1_part_23 X hl kl_X1_45 (c_X5_set E.2.1 D T h3 (0 : Int64) (0 : Int64) m_lastOfSecond_a m_lastOfSecond_b y23 hy23) rfl rfl [] rfl rfl rfl rfl rfl cb_42 rfl (fun H locs X => ?_)
  refine x_aload_n 27 C dX1_part_26 hl 0 rfl rfl ?_
  refine x_get 30 C dX1_part_27 X kf_X1_22 0 rfl rfl rfl ?_
  refine x_aload_n 31 C dX1_part_30 hl 2 rfl rfl ?_
  obtain ⟨y31, hy31, hf⟩ := kx_bind hf
  refine x_callVv 34 C dX1_part_31 X hl kl_X1_41 (c_X5_copy E.2.1 D T h4 h11  m_next_a m_next_b m_p2_a m_p2_b y31 hy31) rfl rfl [] rfl rfl rfl rfl rfl cb_43 rfl (fun H locs X => ?_)
  refine x_aload_n 35 C dX1_part_34 hl 0 rfl rfl ?_
  refine x_get 38 C dX1_part_35 X kf_X1_25 0 rfl rfl rfl ?_
  refine x_lconst 39 C dX1_part_38 (0 : Int64) kv_lconst_0 rfl ?_
  refine x_lconst 40 C dX1_part_39 (0 : Int64) kv_lconst_0 rfl ?_
  obtain ⟨y40, hy40, hf⟩ := kx_bind hf
  refine x_callVv 43 C dX1_part_40 X hl kl_X1_45 (c_X5_set E.2.1 D T h5 (0 : Int64) (0 : Int64) m_nextOfFirst_a m_nextOfFirst_b y40 hy40) rfl rfl [] rfl rfl rfl rfl rfl cb_44 rfl (fun H locs X => ?_)
  refine x_aload_n 44 C dX1_part_43 hl 0 rfl rfl ?_
  refine x_get 47 C dX1_part_44 X kf_X1_28 0 rfl rfl rfl ?_
  refine x_lconst 48 C dX1_part_47 (1 : Int64) kv_lconst_1 rfl ?_
  refine x_lconst 49 C dX1_part_48 (0 : Int64) kv_lconst_0 rfl ?_
  obtain ⟨y49, hy49, hf⟩ := kx_bind hf
  refine x_callVv 52 C dX1_part_49 X hl kl_X1_45 (c_X5_set E.2.1 D T h6 (1 : Int64) (0 : Int64) m_nextOfSecond_a m_nextOfSecond_b y49 hy49) rfl rfl [] rfl rfl rfl rfl rfl cb_45 rfl (fun H locs X => ?_)
  refine x_aload_n 53 C dX1_part_52 hl 0 rfl rfl ?_
  refine x_iconst 54 C dX1_part_53 (0 : Int32) kv_iconst_0 rfl ?_
  refine x_put 57 C dX1_part_54 X kp_X1_49 0 rfl rfl rfl rfl (w15_X1 T h0 h1 h2 h3 h4 h5 h6 h7 h8 h9 h10 h11 (0 : Int32) y5.1 y5.2 y14.1 y14.2 y23.1 y23.2 y31.1 y31.2 y40.1 y40.2 y49.1 y49.2 m_q_a m_q_b m_quotientA m_quotientB m_p1_a m_p1_b m_p2_a m_p2_b) rfl rfl (fun H locs X => ?_)
  refine x_iconst 58 C dX1_part_57 (0 : Int32) kv_iconst_0 rfl ?_
  refine x_istore_n 59 C dX1_part_58 [(3, .int (0 : Int32)), (0, .ref h0), (1, .ref h10), (2, .ref h11)] hl rfl rfl rfl (fun ls hl => ?_)
  exact w_X1_part_59 h0 h1 h2 h3 h4 h5 h6 h7 h8 h9 h10 h11 C N x m_p1_a m_p1_b m_p2_a m_p2_b R  N (0 : Int32) y5.1 y5.2 y14.1 y14.2 y23.1 y23.2 y31.1 y31.2 y40.1 y40.2 y49.1 y49.2 m_q_a m_q_b m_quotientA m_quotientB (0 : Int32) _ _ _ X (lv_sub hl [1, 0] rfl) hf
set_option maxHeartbeats 4000000 in
set_option maxRecDepth 100000 in
theorem w_X5_multiplyByUnit_2 {E : KE} {A : Nat → Prop} {D : va_G} {T : KT} (h0 : Nat) (C : kx_C E cX5_multiplyByUnit 5 none RX5 0 0 D T) (N : Nat) (x : Int64 × Int64)  (R : kx_RV E cX5_multiplyByUnit D A (w7_X5 T h0 x.1 x.2)) : ∀ (k : Nat), ∀ (m_a m_b : Int64) (v1 v2 : Int32) (H : Heap) (locs : List Loc) (ls : Array Slot), kx_H E D A H locs (w7_X5 T h0 m_a m_b) → lv_has ls 5 [(0, .ref h0), (1, .int v1), (2, .int v2)] → f_X5_multiplyByUnit_2 N k v1 v2 m_a m_b = some x → kx_W E H locs 2 ls [] := by
  intro k
  induction k with
  | zero =>
    intro m_a m_b v1 v2 H locs ls X hl hf
    cases (show (none : Option (Int64 × Int64)) = some x from hf)
  | succ k ih =>
    intro m_a m_b v1 v2 H locs ls X hl hf
    rw [f_X5_multiplyByUnit_2] at hf
    refine x_iload_n 3 C dX5_multiplyByUnit_2 hl 2 rfl rfl ?_
    refine x_iload_n 4 C dX5_multiplyByUnit_3 hl 1 rfl rfl ?_
    refine x_icmp_ge 42 7 C dX5_multiplyByUnit_4 rfl rfl hf (fun hf => ?_) (fun hf => ?_)
    · obtain rfl := Option.some.inj hf
      exact R _ _ _ _ X dX5_multiplyByUnit_42
    refine x_iload_n 8 C dX5_multiplyByUnit_7 hl 2 rfl rfl ?_
    refine x_bipush 10 C dX5_multiplyByUnit_8 (6 : Int32) kv_bipush_6 rfl ?_
    refine x_icmp_ge 42 13 C dX5_multiplyByUnit_10 rfl rfl hf (fun hf => ?_) (fun hf => ?_)
    · obtain rfl := Option.some.inj hf
      exact R _ _ _ _ X dX5_multiplyByUnit_42
    refine x_aload_n 14 C dX5_multiplyByUnit_13 hl 0 rfl rfl ?_
    refine x_get 17 C dX5_multiplyByUnit_14 X kf_X5_9 0 rfl rfl rfl ?_
    refine x_lstore_n 18 C dX5_multiplyByUnit_17 [(3, .long m_a), (0, .ref h0), (1, .int v1), (2, .int v2)] hl rfl rfl rfl (fun ls hl => ?_)
    refine x_aload_n 19 C dX5_multiplyByUnit_18 hl 1 rfl rfl ?_
    refine x_aload_n 20 C dX5_multiplyByUnit_19 hl 1 rfl rfl ?_
    refine x_get 23 C dX5_multiplyByUnit_20 X kf_X5_9 0 rfl rfl rfl ?_
    refine x_aload_n 24 C dX5_multiplyByUnit_23 hl 1 rfl rfl ?_
    refine x_get 27 C dX5_multiplyByUnit_24 X kf_X5_15 0 rfl rfl rfl ?_
    refine x_lsub 28 C dX5_multiplyByUnit_27 rfl ?_
    refine x_put 31 C dX5_multiplyByUnit_28 X kp_X5_9 0 rfl rfl rfl rfl (w7_X5 T h0 (m_a - m_b) m_b) rfl rfl (fun H locs X => ?_)
    refine x_aload_n 32 C dX5_multiplyByUnit_31 hl 1 rfl rfl ?_
    refine x_lload_n 33 C dX5_multiplyByUnit_32 hl 0 rfl rfl ?_
    refine x_put 36 C dX5_multiplyByUnit_33 X kp_X5_15 0 rfl rfl rfl rfl (w7_X5 T h0 (m_a - m_b) m_a) rfl rfl (fun H locs X => ?_)
    refine x_iinc 39 C dX5_multiplyByUnit_36 (1 : Int32) kv_iconst_1 [(2, .int (v2 + (1 : Int32))), (3, .long m_a), (0, .ref h0), (1, .int v1)] hl 3 rfl rfl rfl rfl (fun ls hl => ?_)
    refine x_goto 2 C dX5_multiplyByUnit_39 rfl ?_
    exact ih (m_a - m_b) m_a v1 (v2 + (1 : Int32)) _ _ _ X (lv_sub hl [2, 3, 0] rfl) hf
set_option maxHeartbeats 4000000 in
set_option maxRecDepth 100000 in
theorem c_X5_multiplyByUnit (l : Launch) (D : va_G) (T : KT) (h0 : Nat) (N : Nat) (v1 : Int32) (m_a m_b : Int64) (x : Int64 × Int64) (hf : f_X5_multiplyByUnit N v1 m_a m_b = some x) : kx_MV l yX5_multiplyByUnit cX5_multiplyByUnit 5 none 0 0 D T [.ref h0, .int v1] (w7_X5 T h0 m_a m_b) (w7_X5 T h0 x.1 x.2) := by
  refine kx_ofMV RX5 rfl (plainFor_of_name (x := yX5_multiplyByUnit) kpn_X5) rfl ?_
  intro E A H ls _ C X R hl
  have hl : lv_has ls 5 [(0, .ref h0), (1, .int v1)] := hl
  rw [f_X5_multiplyByUnit] at hf
  refine x_iconst 1 C dX5_multiplyByUnit_0 (0 : Int32) kv_iconst_0 rfl ?_
  refine x_istore_n 2 C dX5_multiplyByUnit_1 [(2, .int (0 : Int32)), (0, .ref h0), (1, .int v1)] hl rfl rfl rfl (fun ls hl => ?_)
  exact w_X5_multiplyByUnit_2 h0 C N x  R  N m_a m_b v1 (0 : Int32) _ _ _ X (lv_sub hl [1, 2, 0] rfl) hf
set_option maxHeartbeats 4000000 in
set_option maxRecDepth 100000 in
theorem w_X5_makePrimary_2 {E : KE} {A : Nat → Prop} {D : va_G} {T : KT} (h0 : Nat) (C : kx_C E cX5_makePrimary 2 none RX5 2 45 D T) (N : Nat) (x : Int64 × Int64)  (R : kx_RV E cX5_makePrimary D A (w7_X5 T h0 x.1 x.2)) : ∀ (k : Nat), ∀ (m_a m_b : Int64) (v1 : Int32) (H : Heap) (locs : List Loc) (ls : Array Slot), kx_H E D A H locs (w7_X5 T h0 m_a m_b) → lv_has ls 2 [(0, .ref h0), (1, .int v1)] → f_X5_makePrimary_2 N k v1 m_a m_b = some x → kx_W E H locs 2 ls [] := by
  intro k
  induction k with
  | zero =>
    intro m_a m_b v1 H locs ls X hl hf
    cases (show (none : Option (Int64 × Int64)) = some x from hf)
  | succ k ih =>
    intro m_a m_b v1 H locs ls X hl hf
    rw [f_X5_makePrimary_2] at hf
    refine x_iload_n 3 C dX5_makePrimary_2 hl 1 rfl rfl ?_
    refine x_bipush 5 C dX5_makePrimary_3 (6 : Int32) kv_bipush_6 rfl ?_
    refine x_icmp_ge 33 8 C dX5_makePrimary_5 rfl rfl hf (fun hf => ?_) (fun hf => ?_)
    · obtain rfl := Option.some.inj hf
      exact R _ _ _ _ X dX5_makePrimary_33
    refine x_aload_n 9 C dX5_makePrimary_8 hl 0 rfl rfl ?_
    obtain ⟨y9, hy9, hf⟩ := kx_bind hf
    refine x_callVi0 12 C dX5_makePrimary_9 X hl kl_X5_61 (c_X5_isPrimary E.2.1 D T h0  m_a m_b y9 hy9) rfl rfl [] rfl rfl rfl rfl rfl rfl (fun H locs X => ?_)
    refine x_if_ne 33 15 C dX5_makePrimary_12 rfl rfl hf (fun hf => ?_) (fun hf => ?_)
    · obtain rfl := Option.some.inj hf
      exact R _ _ _ _ X dX5_makePrimary_33
    refine x_aload_n 16 C dX5_makePrimary_15 hl 0 rfl rfl ?_
    obtain ⟨y16, hy16, hf⟩ := kx_bind hf
    refine x_callVi0 19 C dX5_makePrimary_16 X hl kl_X5_58 (c_X5_isOfThree E.2.1 D T h0  m_a m_b y16 hy16) rfl rfl [] rfl rfl rfl rfl rfl rfl (fun H locs X => ?_)
    refine x_if_ne 33 22 C dX5_makePrimary_19 rfl rfl hf (fun hf => ?_) (fun hf => ?_)
    · obtain rfl := Option.some.inj hf
      exact R _ _ _ _ X dX5_makePrimary_33
    refine x_aload_n 23 C dX5_makePrimary_22 hl 0 rfl rfl ?_
    refine x_iconst 24 C dX5_makePrimary_23 (1 : Int32) kv_iconst_1 rfl ?_
    obtain ⟨y24, hy24, hf⟩ := kx_bind hf
    refine x_callVv0 27 C dX5_makePrimary_24 X hl kl_X5_64 (c_X5_multiplyByUnit E.2.1 D T h0 N (1 : Int32) m_a m_b y24 hy24) rfl rfl [] rfl rfl rfl rfl rfl rfl (fun H locs X => ?_)
    refine x_iinc 30 C dX5_makePrimary_27 (1 : Int32) kv_iconst_1 [(1, .int (v1 + (1 : Int32))), (0, .ref h0)] hl 1 rfl rfl rfl rfl (fun ls hl => ?_)
    refine x_goto 2 C dX5_makePrimary_30 rfl ?_
    exact ih y24.1 y24.2 (v1 + (1 : Int32)) _ _ _ X (lv_sub hl [1, 0] rfl) hf
set_option maxHeartbeats 4000000 in
set_option maxRecDepth 100000 in
theorem c_X5_makePrimary (l : Launch) (D : va_G) (T : KT) (h0 : Nat) (N : Nat)  (m_a m_b : Int64) (x : Int64 × Int64) (hf : f_X5_makePrimary N m_a m_b = some x) : kx_MV l yX5_makePrimary cX5_makePrimary 2 none 2 45 D T [.ref h0] (w7_X5 T h0 m_a m_b) (w7_X5 T h0 x.1 x.2) := by
  refine kx_ofMV RX5 rfl (plainFor_of_name (x := yX5_makePrimary) kpn_X5) rfl ?_
  intro E A H ls _ C X R hl
  have hl : lv_has ls 2 [(0, .ref h0)] := hl
  rw [f_X5_makePrimary] at hf
  refine x_iconst 1 C dX5_makePrimary_0 (0 : Int32) kv_iconst_0 rfl ?_
  refine x_istore_n 2 C dX5_makePrimary_1 [(1, .int (0 : Int32)), (0, .ref h0)] hl rfl rfl rfl (fun ls hl => ?_)
  exact w_X5_makePrimary_2 h0 C N x  R  N m_a m_b (0 : Int32) _ _ _ X (lv_sub hl [1, 0] rfl) hf
set_option maxHeartbeats 4000000 in
set_option maxRecDepth 100000 in
theorem c_X2_findDivisorOf (l : Launch) (D : va_G) (T : KT) (h0 h1 h2 h3 h4 h5 h6 h7 h8 h9 h10 h11 h12 h13 h14 h15 h16 : Nat) (N : Nat) (v1 : Int64) (m_count m_threes m_unit m_euclid_count : Int32) (m_euclid_last_a m_euclid_last_b m_euclid_lastOfFirst_a m_euclid_lastOfFirst_b m_euclid_lastOfSecond_a m_euclid_lastOfSecond_b m_euclid_next_a m_euclid_next_b m_euclid_nextOfFirst_a m_euclid_nextOfFirst_b m_euclid_nextOfSecond_a m_euclid_nextOfSecond_b m_euclid_q_a m_euclid_q_b : Int64) (m_euclid_quotientA m_euclid_quotientB : Nat → Int64) (m_left_a m_left_b m_found_a m_found_b : Int64) (x : Int32 × Int64 × Int64 × Int64 × Int64 × Int64 × Int64 × Int64 × Int64 × Int64 × Int64 × Int64 × Int64 × Int64 × Int64 × (Nat → Int64) × (Nat → Int64) × Int64 × Int64) (hf : f_X2_findDivisorOf N v1 m_euclid_q_a m_euclid_q_b m_euclid_quotientA m_euclid_quotientB m_left_a m_left_b = some x) : kx_MV l yX2_findDivisorOf cX2_findDivisorOf 3 none 3 76 D T [.ref h0, .long v1] (w24_X2 T h0 h1 h2 h3 h4 h5 h6 h7 h8 h9 h10 h11 h12 h13 h14 h15 h16 m_count m_threes m_unit m_euclid_count m_euclid_last_a m_euclid_last_b m_euclid_lastOfFirst_a m_euclid_lastOfFirst_b m_euclid_lastOfSecond_a m_euclid_lastOfSecond_b m_euclid_next_a m_euclid_next_b m_euclid_nextOfFirst_a m_euclid_nextOfFirst_b m_euclid_nextOfSecond_a m_euclid_nextOfSecond_b m_euclid_q_a m_euclid_q_b m_euclid_quotientA m_euclid_quotientB m_left_a m_left_b m_found_a m_found_b) (w24_X2 T h0 h1 h2 h3 h4 h5 h6 h7 h8 h9 h10 h11 h12 h13 h14 h15 h16 m_count m_threes m_unit x.1 x.2.1 x.2.2.1 x.2.2.2.1 x.2.2.2.2.1 x.2.2.2.2.2.1 x.2.2.2.2.2.2.1 x.2.2.2.2.2.2.2.1 x.2.2.2.2.2.2.2.2.1 x.2.2.2.2.2.2.2.2.2.1 x.2.2.2.2.2.2.2.2.2.2.1 x.2.2.2.2.2.2.2.2.2.2.2.1 x.2.2.2.2.2.2.2.2.2.2.2.2.1 x.2.2.2.2.2.2.2.2.2.2.2.2.2.1 x.2.2.2.2.2.2.2.2.2.2.2.2.2.2.1 x.2.2.2.2.2.2.2.2.2.2.2.2.2.2.2.1 x.2.2.2.2.2.2.2.2.2.2.2.2.2.2.2.2.1 m_left_a m_left_b x.2.2.2.2.2.2.2.2.2.2.2.2.2.2.2.2.2.1 x.2.2.2.2.2.2.2.2.2.2.2.2.2.2.2.2.2.2) := by
  refine kx_ofMV RX2 rfl (plainFor_of_name (x := yX2_findDivisorOf) kpn_X2) rfl ?_
  intro E A H ls _ C X R hl
  have hl : lv_has ls 3 [(0, .ref h0), (1, .long v1)] := hl
  rw [f_X2_findDivisorOf] at hf
  refine x_aload_n 1 C dX2_findDivisorOf_0 hl 0 rfl rfl ?_
  refine x_get 4 C dX2_findDivisorOf_1 X kf_X2_33 0 rfl rfl rfl ?_
  refine x_lload_n 5 C dX2_findDivisorOf_4 hl 1 rfl rfl ?_
  refine x_lconst 6 C dX2_findDivisorOf_5 (0 : Int64) kv_lconst_0 rfl ?_
  obtain ⟨y6, hy6, hf⟩ := kx_bind hf
  refine x_callVv 9 C dX2_findDivisorOf_6 X hl kl_X2_70 (c_X5_set E.2.1 D T h15 v1 (0 : Int64) m_found_a m_found_b y6 hy6) rfl rfl [] rfl rfl rfl rfl rfl cb_32 rfl (fun H locs X => ?_)
  refine x_aload_n 10 C dX2_findDivisorOf_9 hl 0 rfl rfl ?_
  refine x_get 13 C dX2_findDivisorOf_10 X kf_X2_22 0 rfl rfl rfl ?_
  refine x_aload_n 14 C dX2_findDivisorOf_13 hl 0 rfl rfl ?_
  refine x_get 17 C dX2_findDivisorOf_14 X kf_X2_33 0 rfl rfl rfl ?_
  refine x_aload_n 18 C dX2_findDivisorOf_17 hl 0 rfl rfl ?_
  refine x_get 21 C dX2_findDivisorOf_18 X kf_X2_29 0 rfl rfl rfl ?_
  obtain ⟨y21, hy21, hf⟩ := kx_bind hf
  refine x_callVv 24 C dX2_findDivisorOf_21 X hl kl_X2_118 (c_X1_part E.2.1 D T h4 h5 h6 h7 h8 h9 h10 h11 h12 h13 h15 h14 N  m_euclid_count m_euclid_last_a m_euclid_last_b m_euclid_lastOfFirst_a m_euclid_lastOfFirst_b m_euclid_lastOfSecond_a m_euclid_lastOfSecond_b m_euclid_next_a m_euclid_next_b m_euclid_nextOfFirst_a m_euclid_nextOfFirst_b m_euclid_nextOfSecond_a m_euclid_nextOfSecond_b m_euclid_q_a m_euclid_q_b m_euclid_quotientA m_euclid_quotientB y6.1 y6.2 m_left_a m_left_b y21 hy21) rfl rfl [] rfl rfl rfl rfl rfl cb_33 rfl (fun H locs X => ?_)
  refine x_aload_n 25 C dX2_findDivisorOf_24 hl 0 rfl rfl ?_
  refine x_get 28 C dX2_findDivisorOf_25 X kf_X2_33 0 rfl rfl rfl ?_
  refine x_aload_n 29 C dX2_findDivisorOf_28 hl 0 rfl rfl ?_
  refine x_get 32 C dX2_findDivisorOf_29 X kf_X2_22 0 rfl rfl rfl ?_
  refine x_get 35 C dX2_findDivisorOf_32 X kf_X2_122 1 rfl rfl rfl ?_
  obtain ⟨y35, hy35, hf⟩ := kx_bind hf
  refine x_callVv 38 C dX2_findDivisorOf_35 X hl kl_X2_46 (c_X5_copy E.2.1 D T h15 h5  y6.1 y6.2 y21.2.1 y21.2.2.1 y35 hy35) rfl rfl [] rfl rfl rfl rfl rfl cb_34 rfl (fun H locs X => ?_)
  refine x_aload_n 39 C dX2_findDivisorOf_38 hl 0 rfl rfl ?_
  refine x_get 42 C dX2_findDivisorOf_39 X kf_X2_33 0 rfl rfl rfl ?_
  obtain ⟨y42, hy42, hf⟩ := kx_bind hf
  refine x_callVv 45 C dX2_findDivisorOf_42 X hl kl_X2_125 (c_X5_makePrimary E.2.1 D T h15 N  y35.1 y35.2 y42 hy42) rfl rfl [] rfl rfl rfl rfl rfl cb_32 rfl (fun H locs X => ?_)
  obtain rfl := Option.some.inj hf
  exact R _ _ _ _ X dX2_findDivisorOf_45
set_option maxHeartbeats 4000000 in
set_option maxRecDepth 100000 in
theorem w_X2_spellRest_44 {E : KE} {A : Nat → Prop} {D : va_G} {T : KT} (h0 h1 h2 h3 h4 h5 h6 h7 h8 h9 h10 h11 h12 h13 h14 h15 h16 : Nat) (C : kx_C E cX2_spellRest 6 none RX2 4 98 D T) (N : Nat) (x : Int32 × (Nat → Int64) × (Nat → Int64) × (Nat → Int64) × Int32 × Int64 × Int64 × Int64 × Int64 × Int64 × Int64 × Int64 × Int64 × Int64 × Int64 × Int64 × Int64 × Int64 × Int64 × (Nat → Int64) × (Nat → Int64) × Int64 × Int64) (m_threes m_unit : Int32) (m_left_a m_left_b : Int64) (R : kx_RV E cX2_spellRest D A (w21_X2 T h0 h1 h2 h3 h4 h5 h6 h7 h8 h9 h10 h11 h12 h13 h14 h15 h16 x.1 m_threes m_unit x.2.1 x.2.2.1 x.2.2.2.1 x.2.2.2.2.1 x.2.2.2.2.2.1 x.2.2.2.2.2.2.1 x.2.2.2.2.2.2.2.1 x.2.2.2.2.2.2.2.2.1 x.2.2.2.2.2.2.2.2.2.1 x.2.2.2.2.2.2.2.2.2.2.1 x.2.2.2.2.2.2.2.2.2.2.2.1 x.2.2.2.2.2.2.2.2.2.2.2.2.1 x.2.2.2.2.2.2.2.2.2.2.2.2.2.1 x.2.2.2.2.2.2.2.2.2.2.2.2.2.2.1 x.2.2.2.2.2.2.2.2.2.2.2.2.2.2.2.1 x.2.2.2.2.2.2.2.2.2.2.2.2.2.2.2.2.1 x.2.2.2.2.2.2.2.2.2.2.2.2.2.2.2.2.2.1 x.2.2.2.2.2.2.2.2.2.2.2.2.2.2.2.2.2.2.1 x.2.2.2.2.2.2.2.2.2.2.2.2.2.2.2.2.2.2.2.1 x.2.2.2.2.2.2.2.2.2.2.2.2.2.2.2.2.2.2.2.2.1 m_left_a m_left_b x.2.2.2.2.2.2.2.2.2.2.2.2.2.2.2.2.2.2.2.2.2.1 x.2.2.2.2.2.2.2.2.2.2.2.2.2.2.2.2.2.2.2.2.2.2)) (k12 : Int64 → Int64 → Int32 → (Nat → Int64) → (Nat → Int64) → (Nat → Int64) → Int32 → Int64 → Int64 → Int64 → Int64 → Int64 → Int64 → Int64 → Int64 → Int64 → Int64 → Int64 → Int64 → Int64 → Int64 → (Nat → Int64) → (Nat → Int64) → Int64 → Int64 → Int64 → Int64 → Option (Int32 × (Nat → Int64) × (Nat → Int64) × (Nat → Int64) × Int32 × Int64 × Int64 × Int64 × Int64 × Int64 × Int64 × Int64 × Int64 × Int64 × Int64 × Int64 × Int64 × Int64 × Int64 × (Nat → Int64) × (Nat → Int64) × Int64 × Int64)) (hk12 : ∀ (m_count : Int32) (m_primeA m_primeB m_norms : Nat → Int64) (m_euclid_count : Int32) (m_euclid_last_a m_euclid_last_b m_euclid_lastOfFirst_a m_euclid_lastOfFirst_b m_euclid_lastOfSecond_a m_euclid_lastOfSecond_b m_euclid_next_a m_euclid_next_b m_euclid_nextOfFirst_a m_euclid_nextOfFirst_b m_euclid_nextOfSecond_a m_euclid_nextOfSecond_b m_euclid_q_a m_euclid_q_b : Int64) (m_euclid_quotientA m_euclid_quotientB : Nat → Int64) (m_found_a m_found_b : Int64) (v1 v3 : Int64) (H : Heap) (locs : List Loc) (ls : Array Slot), kx_H E D A H locs (w21_X2 T h0 h1 h2 h3 h4 h5 h6 h7 h8 h9 h10 h11 h12 h13 h14 h15 h16 m_count m_threes m_unit m_primeA m_primeB m_norms m_euclid_count m_euclid_last_a m_euclid_last_b m_euclid_lastOfFirst_a m_euclid_lastOfFirst_b m_euclid_lastOfSecond_a m_euclid_lastOfSecond_b m_euclid_next_a m_euclid_next_b m_euclid_nextOfFirst_a m_euclid_nextOfFirst_b m_euclid_nextOfSecond_a m_euclid_nextOfSecond_b m_euclid_q_a m_euclid_q_b m_euclid_quotientA m_euclid_quotientB m_left_a m_left_b m_found_a m_found_b) → lv_has ls 6 [(0, .ref h0), (1, .long v1), (3, .long v3)] → k12 v1 v3 m_count m_primeA m_primeB m_norms m_euclid_count m_euclid_last_a m_euclid_last_b m_euclid_lastOfFirst_a m_euclid_lastOfFirst_b m_euclid_lastOfSecond_a m_euclid_lastOfSecond_b m_euclid_next_a m_euclid_next_b m_euclid_nextOfFirst_a m_euclid_nextOfFirst_b m_euclid_nextOfSecond_a m_euclid_nextOfSecond_b m_euclid_q_a m_euclid_q_b m_euclid_quotientA m_euclid_quotientB m_left_a m_left_b m_found_a m_found_b = some x → kx_W E H locs 12 ls []) : ∀ (k : Nat), ∀ (m_count : Int32) (m_primeA m_primeB m_norms : Nat → Int64) (m_euclid_count : Int32) (m_euclid_last_a m_euclid_last_b m_euclid_lastOfFirst_a m_euclid_lastOfFirst_b m_euclid_lastOfSecond_a m_euclid_lastOfSecond_b m_euclid_next_a m_euclid_next_b m_euclid_nextOfFirst_a m_euclid_nextOfFirst_b m_euclid_nextOfSecond_a m_euclid_nextOfSecond_b m_euclid_q_a m_euclid_q_b : Int64) (m_euclid_quotientA m_euclid_quotientB : Nat → Int64) (m_found_a m_found_b : Int64) (v1 v3 : Int64) (v5 : Int32) (H : Heap) (locs : List Loc) (ls : Array Slot), kx_H E D A H locs (w21_X2 T h0 h1 h2 h3 h4 h5 h6 h7 h8 h9 h10 h11 h12 h13 h14 h15 h16 m_count m_threes m_unit m_primeA m_primeB m_norms m_euclid_count m_euclid_last_a m_euclid_last_b m_euclid_lastOfFirst_a m_euclid_lastOfFirst_b m_euclid_lastOfSecond_a m_euclid_lastOfSecond_b m_euclid_next_a m_euclid_next_b m_euclid_nextOfFirst_a m_euclid_nextOfFirst_b m_euclid_nextOfSecond_a m_euclid_nextOfSecond_b m_euclid_q_a m_euclid_q_b m_euclid_quotientA m_euclid_quotientB m_left_a m_left_b m_found_a m_found_b) → lv_has ls 6 [(0, .ref h0), (1, .long v1), (3, .long v3), (5, .int v5)] → f_X2_spellRest_44 N k12 k v1 v3 v5 m_count m_primeA m_primeB m_norms m_euclid_count m_euclid_last_a m_euclid_last_b m_euclid_lastOfFirst_a m_euclid_lastOfFirst_b m_euclid_lastOfSecond_a m_euclid_lastOfSecond_b m_euclid_next_a m_euclid_next_b m_euclid_nextOfFirst_a m_euclid_nextOfFirst_b m_euclid_nextOfSecond_a m_euclid_nextOfSecond_b m_euclid_q_a m_euclid_q_b m_euclid_quotientA m_euclid_quotientB m_left_a m_left_b m_found_a m_found_b = some x → kx_W E H locs 44 ls [] := by
  intro k
  induction k with
  | zero =>
    intro m_count m_primeA m_primeB m_norms m_euclid_count m_euclid_last_a m_euclid_last_b m_euclid_lastOfFirst_a m_euclid_lastOfFirst_b m_euclid_lastOfSecond_a m_euclid_lastOfSecond_b m_euclid_next_a m_euclid_next_b m_euclid_nextOfFirst_a m_euclid_nextOfFirst_b m_euclid_nextOfSecond_a m_euclid_nextOfSecond_b m_euclid_q_a m_euclid_q_b m_euclid_quotientA m_euclid_quotientB m_found_a m_found_b v1 v3 v5 H locs ls X hl hf
    cases (show (none : Option (Int32 × (Nat → Int64) × (Nat → Int64) × (Nat → Int64) × Int32 × Int64 × Int64 × Int64 × Int64 × Int64 × Int64 × Int64 × Int64 × Int64 × Int64 × Int64 × Int64 × Int64 × Int64 × (Nat → Int64) × (Nat → Int64) × Int64 × Int64)) = some x from hf)
  | succ k ih =>
    intro m_count m_primeA m_primeB m_norms m_euclid_count m_euclid_last_a m_euclid_last_b m_euclid_lastOfFirst_a m_euclid_lastOfFirst_b m_euclid_lastOfSecond_a m_euclid_lastOfSecond_b m_euclid_next_a m_euclid_next_b m_euclid_nextOfFirst_a m_euclid_nextOfFirst_b m_euclid_nextOfSecond_a m_euclid_nextOfSecond_b m_euclid_q_a m_euclid_q_b m_euclid_quotientA m_euclid_quotientB m_found_a m_found_b v1 v3 v5 H locs ls X hl hf
    rw [f_X2_spellRest_44] at hf
    refine x_iload 46 C dX2_spellRest_44 hl 3 rfl rfl ?_
    refine x_bipush 48 C dX2_spellRest_46 (32 : Int32) kv_bipush_32 rfl ?_
    refine x_icmp_ge 73 51 C dX2_spellRest_48 rfl rfl hf (fun hf => ?_) (fun hf => ?_)
    · refine x_lload_n 74 C dX2_spellRest_73 hl 2 rfl rfl ?_
      refine x_ldc2_w 77 C dX2_spellRest_74 (6 : Int64) kc_X2_116 rfl ?_
      refine x_ladd 78 C dX2_spellRest_77 rfl ?_
      refine x_lstore_n 79 C dX2_spellRest_78 [(3, .long (v3 + (6 : Int64))), (0, .ref h0), (1, .long v1), (5, .int v5)] hl rfl rfl rfl (fun ls hl => ?_)
      refine x_goto 12 C dX2_spellRest_79 rfl ?_
      exact hk12 m_count m_primeA m_primeB m_norms m_euclid_count m_euclid_last_a m_euclid_last_b m_euclid_lastOfFirst_a m_euclid_lastOfFirst_b m_euclid_lastOfSecond_a m_euclid_lastOfSecond_b m_euclid_next_a m_euclid_next_b m_euclid_nextOfFirst_a m_euclid_nextOfFirst_b m_euclid_nextOfSecond_a m_euclid_nextOfSecond_b m_euclid_q_a m_euclid_q_b m_euclid_quotientA m_euclid_quotientB m_found_a m_found_b v1 (v3 + (6 : Int64)) _ _ _ X (lv_sub hl [1, 2, 0] rfl) hf
    refine x_lload_n 52 C dX2_spellRest_51 hl 1 rfl rfl ?_
    refine x_lload_n 53 C dX2_spellRest_52 hl 2 rfl rfl ?_
    refine x_lrem 54 C dX2_spellRest_53 hf rfl (fun hf => ?_)
    refine x_lconst 55 C dX2_spellRest_54 (0 : Int64) kv_lconst_0 rfl ?_
    refine x_lcmp_ne 73 56 59 C dX2_spellRest_55 dX2_spellRest_56 rfl rfl rfl hf (fun hf => ?_) (fun hf => ?_)
    · refine x_lload_n 74 C dX2_spellRest_73 hl 2 rfl rfl ?_
      refine x_ldc2_w 77 C dX2_spellRest_74 (6 : Int64) kc_X2_116 rfl ?_
      refine x_ladd 78 C dX2_spellRest_77 rfl ?_
      refine x_lstore_n 79 C dX2_spellRest_78 [(3, .long (v3 + (6 : Int64))), (0, .ref h0), (1, .long v1), (5, .int v5)] hl rfl rfl rfl (fun ls hl => ?_)
      refine x_goto 12 C dX2_spellRest_79 rfl ?_
      exact hk12 m_count m_primeA m_primeB m_norms m_euclid_count m_euclid_last_a m_euclid_last_b m_euclid_lastOfFirst_a m_euclid_lastOfFirst_b m_euclid_lastOfSecond_a m_euclid_lastOfSecond_b m_euclid_next_a m_euclid_next_b m_euclid_nextOfFirst_a m_euclid_nextOfFirst_b m_euclid_nextOfSecond_a m_euclid_nextOfSecond_b m_euclid_q_a m_euclid_q_b m_euclid_quotientA m_euclid_quotientB m_found_a m_found_b v1 (v3 + (6 : Int64)) _ _ _ X (lv_sub hl [1, 2, 0] rfl) hf
    refine x_aload_n 60 C dX2_spellRest_59 hl 0 rfl rfl ?_
    obtain ⟨y60, hy60, hf⟩ := kx_bind hf
    refine x_callVv 63 C dX2_spellRest_60 X hl kl_X2_93 (c_X2_insert E.2.1 D T h0 h1 h2 h3 h4 h14 h15 h16 N  m_count m_threes m_unit m_primeA m_primeB m_norms m_found_a m_found_b y60 hy60) rfl rfl [] rfl rfl rfl rfl rfl cb_29 rfl (fun H locs X => ?_)
    refine x_lload_n 64 C dX2_spellRest_63 hl 1 rfl rfl ?_
    refine x_lload_n 65 C dX2_spellRest_64 hl 2 rfl rfl ?_
    refine x_ldiv 66 C dX2_spellRest_65 hf rfl (fun hf => ?_)
    refine x_lstore_n 67 C dX2_spellRest_66 [(1, .long (v1 / v3)), (0, .ref h0), (3, .long v3), (5, .int v5)] hl rfl rfl rfl (fun ls hl => ?_)
    refine x_iinc 70 C dX2_spellRest_67 (1 : Int32) kv_iconst_1 [(5, .int (v5 + (1 : Int32))), (1, .long (v1 / v3)), (0, .ref h0), (3, .long v3)] hl 3 rfl rfl rfl rfl (fun ls hl => ?_)
    refine x_goto 44 C dX2_spellRest_70 rfl ?_
    exact ih y60.1 y60.2.1 y60.2.2.1 y60.2.2.2 m_euclid_count m_euclid_last_a m_euclid_last_b m_euclid_lastOfFirst_a m_euclid_lastOfFirst_b m_euclid_lastOfSecond_a m_euclid_lastOfSecond_b m_euclid_next_a m_euclid_next_b m_euclid_nextOfFirst_a m_euclid_nextOfFirst_b m_euclid_nextOfSecond_a m_euclid_nextOfSecond_b m_euclid_q_a m_euclid_q_b m_euclid_quotientA m_euclid_quotientB m_found_a m_found_b (v1 / v3) v3 (v5 + (1 : Int32)) _ _ _ X (lv_sub hl [2, 1, 3, 0] rfl) hf
set_option maxHeartbeats 4000000 in
set_option maxRecDepth 100000 in
theorem w_X2_spellRest_82 {E : KE} {A : Nat → Prop} {D : va_G} {T : KT} (h0 h1 h2 h3 h4 h5 h6 h7 h8 h9 h10 h11 h12 h13 h14 h15 h16 : Nat) (C : kx_C E cX2_spellRest 6 none RX2 4 98 D T) (N : Nat) (x : Int32 × (Nat → Int64) × (Nat → Int64) × (Nat → Int64) × Int32 × Int64 × Int64 × Int64 × Int64 × Int64 × Int64 × Int64 × Int64 × Int64 × Int64 × Int64 × Int64 × Int64 × Int64 × (Nat → Int64) × (Nat → Int64) × Int64 × Int64) (m_threes m_unit : Int32) (m_left_a m_left_b : Int64) (R : kx_RV E cX2_spellRest D A (w21_X2 T h0 h1 h2 h3 h4 h5 h6 h7 h8 h9 h10 h11 h12 h13 h14 h15 h16 x.1 m_threes m_unit x.2.1 x.2.2.1 x.2.2.2.1 x.2.2.2.2.1 x.2.2.2.2.2.1 x.2.2.2.2.2.2.1 x.2.2.2.2.2.2.2.1 x.2.2.2.2.2.2.2.2.1 x.2.2.2.2.2.2.2.2.2.1 x.2.2.2.2.2.2.2.2.2.2.1 x.2.2.2.2.2.2.2.2.2.2.2.1 x.2.2.2.2.2.2.2.2.2.2.2.2.1 x.2.2.2.2.2.2.2.2.2.2.2.2.2.1 x.2.2.2.2.2.2.2.2.2.2.2.2.2.2.1 x.2.2.2.2.2.2.2.2.2.2.2.2.2.2.2.1 x.2.2.2.2.2.2.2.2.2.2.2.2.2.2.2.2.1 x.2.2.2.2.2.2.2.2.2.2.2.2.2.2.2.2.2.1 x.2.2.2.2.2.2.2.2.2.2.2.2.2.2.2.2.2.2.1 x.2.2.2.2.2.2.2.2.2.2.2.2.2.2.2.2.2.2.2.1 x.2.2.2.2.2.2.2.2.2.2.2.2.2.2.2.2.2.2.2.2.1 m_left_a m_left_b x.2.2.2.2.2.2.2.2.2.2.2.2.2.2.2.2.2.2.2.2.2.1 x.2.2.2.2.2.2.2.2.2.2.2.2.2.2.2.2.2.2.2.2.2.2)) : ∀ (m_count : Int32) (m_primeA m_primeB m_norms : Nat → Int64) (m_euclid_count : Int32) (m_euclid_last_a m_euclid_last_b m_euclid_lastOfFirst_a m_euclid_lastOfFirst_b m_euclid_lastOfSecond_a m_euclid_lastOfSecond_b m_euclid_next_a m_euclid_next_b m_euclid_nextOfFirst_a m_euclid_nextOfFirst_b m_euclid_nextOfSecond_a m_euclid_nextOfSecond_b m_euclid_q_a m_euclid_q_b : Int64) (m_euclid_quotientA m_euclid_quotientB : Nat → Int64) (m_found_a m_found_b : Int64) (v1 : Int64) (H : Heap) (locs : List Loc) (ls : Array Slot), kx_H E D A H locs (w21_X2 T h0 h1 h2 h3 h4 h5 h6 h7 h8 h9 h10 h11 h12 h13 h14 h15 h16 m_count m_threes m_unit m_primeA m_primeB m_norms m_euclid_count m_euclid_last_a m_euclid_last_b m_euclid_lastOfFirst_a m_euclid_lastOfFirst_b m_euclid_lastOfSecond_a m_euclid_lastOfSecond_b m_euclid_next_a m_euclid_next_b m_euclid_nextOfFirst_a m_euclid_nextOfFirst_b m_euclid_nextOfSecond_a m_euclid_nextOfSecond_b m_euclid_q_a m_euclid_q_b m_euclid_quotientA m_euclid_quotientB m_left_a m_left_b m_found_a m_found_b) → lv_has ls 6 [(0, .ref h0), (1, .long v1)] → f_X2_spellRest_82 N v1 m_count m_primeA m_primeB m_norms m_euclid_count m_euclid_last_a m_euclid_last_b m_euclid_lastOfFirst_a m_euclid_lastOfFirst_b m_euclid_lastOfSecond_a m_euclid_lastOfSecond_b m_euclid_next_a m_euclid_next_b m_euclid_nextOfFirst_a m_euclid_nextOfFirst_b m_euclid_nextOfSecond_a m_euclid_nextOfSecond_b m_euclid_q_a m_euclid_q_b m_euclid_quotientA m_euclid_quotientB m_left_a m_left_b m_found_a m_found_b = some x → kx_W E H locs 82 ls [] := by
  intro m_count m_primeA m_primeB m_norms m_euclid_count m_euclid_last_a m_euclid_last_b m_euclid_lastOfFirst_a m_euclid_lastOfFirst_b m_euclid_lastOfSecond_a m_euclid_lastOfSecond_b m_euclid_next_a m_euclid_next_b m_euclid_nextOfFirst_a m_euclid_nextOfFirst_b m_euclid_nextOfSecond_a m_euclid_nextOfSecond_b m_euclid_q_a m_euclid_q_b m_euclid_quotientA m_euclid_quotientB m_found_a m_found_b v1 H locs ls X hl hf
  rw [f_X2_spellRest_82] at hf
  refine x_lload_n 83 C dX2_spellRest_82 hl 1 rfl rfl ?_
  refine x_lconst 84 C dX2_spellRest_83 (1 : Int64) kv_lconst_1 rfl ?_
  refine x_lcmp_le 97 85 88 C dX2_spellRest_84 dX2_spellRest_85 rfl rfl rfl hf (fun hf => ?_) (fun hf => ?_)
  · obtain rfl := Option.some.inj hf
    exact R _ _ _ _ X dX2_spellRest_97
  refine x_aload_n 89 C dX2_spellRest_88 hl 0 rfl rfl ?_
  refine x_lload_n 90 C dX2_spellRest_89 hl 1 rfl rfl ?_
  obtain ⟨y90, hy90, hf⟩ := kx_bind hf
  refine x_callVv 93 C dX2_spellRest_90 X hl kl_X2_113 (c_X2_findDivisorOf E.2.1 D T h0 h1 h2 h3 h4 h5 h6 h7 h8 h9 h10 h11 h12 h13 h14 h15 h16 N v1 m_count m_threes m_unit m_euclid_count m_euclid_last_a m_euclid_last_b m_euclid_lastOfFirst_a m_euclid_lastOfFirst_b m_euclid_lastOfSecond_a m_euclid_lastOfSecond_b m_euclid_next_a m_euclid_next_b m_euclid_nextOfFirst_a m_euclid_nextOfFirst_b m_euclid_nextOfSecond_a m_euclid_nextOfSecond_b m_euclid_q_a m_euclid_q_b m_euclid_quotientA m_euclid_quotientB m_left_a m_left_b m_found_a m_found_b y90 hy90) rfl rfl [] rfl rfl rfl rfl rfl cb_30 rfl (fun H locs X => ?_)
  refine x_aload_n 94 C dX2_spellRest_93 hl 0 rfl rfl ?_
  obtain ⟨y94, hy94, hf⟩ := kx_bind hf
  refine x_callVv 97 C dX2_spellRest_94 X hl kl_X2_93 (c_X2_insert E.2.1 D T h0 h1 h2 h3 h4 h14 h15 h16 N  m_count m_threes m_unit m_primeA m_primeB m_norms y90.2.2.2.2.2.2.2.2.2.2.2.2.2.2.2.2.2.1 y90.2.2.2.2.2.2.2.2.2.2.2.2.2.2.2.2.2.2 y94 hy94) rfl rfl [] rfl rfl rfl rfl rfl cb_29 rfl (fun H locs X => ?_)
  obtain rfl := Option.some.inj hf
  exact R _ _ _ _ X dX2_spellRest_97
set_option maxHeartbeats 4000000 in
set_option maxRecDepth 100000 in
theorem w_X2_spellRest_12 {E : KE} {A : Nat → Prop} {D : va_G} {T : KT} (h0 h1 h2 h3 h4 h5 h6 h7 h8 h9 h10 h11 h12 h13 h14 h15 h16 : Nat) (C : kx_C E cX2_spellRest 6 none RX2 4 98 D T) (N : Nat) (x : Int32 × (Nat → Int64) × (Nat → Int64) × (Nat → Int64) × Int32 × Int64 × Int64 × Int64 × Int64 × Int64 × Int64 × Int64 × Int64 × Int64 × Int64 × Int64 × Int64 × Int64 × Int64 × (Nat → Int64) × (Nat → Int64) × Int64 × Int64) (m_threes m_unit : Int32) (m_left_a m_left_b : Int64) (R : kx_RV E cX2_spellRest D A (w21_X2 T h0 h1 h2 h3 h4 h5 h6 h7 h8 h9 h10 h11 h12 h13 h14 h15 h16 x.1 m_threes m_unit x.2.1 x.2.2.1 x.2.2.2.1 x.2.2.2.2.1 x.2.2.2.2.2.1 x.2.2.2.2.2.2.1 x.2.2.2.2.2.2.2.1 x.2.2.2.2.2.2.2.2.1 x.2.2.2.2.2.2.2.2.2.1 x.2.2.2.2.2.2.2.2.2.2.1 x.2.2.2.2.2.2.2.2.2.2.2.1 x.2.2.2.2.2.2.2.2.2.2.2.2.1 x.2.2.2.2.2.2.2.2.2.2.2.2.2.1 x.2.2.2.2.2.2.2.2.2.2.2.2.2.2.1 x.2.2.2.2.2.2.2.2.2.2.2.2.2.2.2.1 x.2.2.2.2.2.2.2.2.2.2.2.2.2.2.2.2.1 x.2.2.2.2.2.2.2.2.2.2.2.2.2.2.2.2.2.1 x.2.2.2.2.2.2.2.2.2.2.2.2.2.2.2.2.2.2.1 x.2.2.2.2.2.2.2.2.2.2.2.2.2.2.2.2.2.2.2.1 x.2.2.2.2.2.2.2.2.2.2.2.2.2.2.2.2.2.2.2.2.1 m_left_a m_left_b x.2.2.2.2.2.2.2.2.2.2.2.2.2.2.2.2.2.2.2.2.2.1 x.2.2.2.2.2.2.2.2.2.2.2.2.2.2.2.2.2.2.2.2.2.2)) : ∀ (k : Nat), ∀ (m_count : Int32) (m_primeA m_primeB m_norms : Nat → Int64) (m_euclid_count : Int32) (m_euclid_last_a m_euclid_last_b m_euclid_lastOfFirst_a m_euclid_lastOfFirst_b m_euclid_lastOfSecond_a m_euclid_lastOfSecond_b m_euclid_next_a m_euclid_next_b m_euclid_nextOfFirst_a m_euclid_nextOfFirst_b m_euclid_nextOfSecond_a m_euclid_nextOfSecond_b m_euclid_q_a m_euclid_q_b : Int64) (m_euclid_quotientA m_euclid_quotientB : Nat → Int64) (m_found_a m_found_b : Int64) (v1 v3 : Int64) (H : Heap) (locs : List Loc) (ls : Array Slot), kx_H E D A H locs (w21_X2 T h0 h1 h2 h3 h4 h5 h6 h7 h8 h9 h10 h11 h12 h13 h14 h15 h16 m_count m_threes m_unit m_primeA m_primeB m_norms m_euclid_count m_euclid_last_a m_euclid_last_b m_euclid_lastOfFirst_a m_euclid_lastOfFirst_b m_euclid_lastOfSecond_a m_euclid_lastOfSecond_b m_euclid_next_a m_euclid_next_b m_euclid_nextOfFirst_a m_euclid_nextOfFirst_b m_euclid_nextOfSecond_a m_euclid_nextOfSecond_b m_euclid_q_a m_euclid_q_b m_euclid_quotientA m_euclid_quotientB m_left_a m_left_b m_found_a m_found_b) → lv_has ls 6 [(0, .ref h0), (1, .long v1), (3, .long v3)] → f_X2_spellRest_12 N k v1 v3 m_count m_primeA m_primeB m_norms m_euclid_count m_euclid_last_a m_euclid_last_b m_euclid_lastOfFirst_a m_euclid_lastOfFirst_b m_euclid_lastOfSecond_a m_euclid_lastOfSecond_b m_euclid_next_a m_euclid_next_b m_euclid_nextOfFirst_a m_euclid_nextOfFirst_b m_euclid_nextOfSecond_a m_euclid_nextOfSecond_b m_euclid_q_a m_euclid_q_b m_euclid_quotientA m_euclid_quotientB m_left_a m_left_b m_found_a m_found_b = some x → kx_W E H locs 12 ls [] := by
  intro k
  induction k with
  | zero =>
    intro m_count m_primeA m_primeB m_norms m_euclid_count m_euclid_last_a m_euclid_last_b m_euclid_lastOfFirst_a m_euclid_lastOfFirst_b m_euclid_lastOfSecond_a m_euclid_lastOfSecond_b m_euclid_next_a m_euclid_next_b m_euclid_nextOfFirst_a m_euclid_nextOfFirst_b m_euclid_nextOfSecond_a m_euclid_nextOfSecond_b m_euclid_q_a m_euclid_q_b m_euclid_quotientA m_euclid_quotientB m_found_a m_found_b v1 v3 H locs ls X hl hf
    cases (show (none : Option (Int32 × (Nat → Int64) × (Nat → Int64) × (Nat → Int64) × Int32 × Int64 × Int64 × Int64 × Int64 × Int64 × Int64 × Int64 × Int64 × Int64 × Int64 × Int64 × Int64 × Int64 × Int64 × (Nat → Int64) × (Nat → Int64) × Int64 × Int64)) = some x from hf)
  | succ k ih =>
    intro m_count m_primeA m_primeB m_norms m_euclid_count m_euclid_last_a m_euclid_last_b m_euclid_lastOfFirst_a m_euclid_lastOfFirst_b m_euclid_lastOfSecond_a m_euclid_lastOfSecond_b m_euclid_next_a m_euclid_next_b m_euclid_nextOfFirst_a m_euclid_nextOfFirst_b m_euclid_nextOfSecond_a m_euclid_nextOfSecond_b m_euclid_q_a m_euclid_q_b m_euclid_quotientA m_euclid_quotientB m_found_a m_found_b v1 v3 H locs ls X hl hf
    rw [f_X2_spellRest_12] at hf
    refine x_lload_n 13 C dX2_spellRest_12 hl 2 rfl rfl ?_
    refine x_ldc2_w 16 C dX2_spellRest_13 (20000 : Int64) kc_X2_111 rfl ?_
    refine x_lcmp_gt 82 17 20 C dX2_spellRest_16 dX2_spellRest_17 rfl rfl rfl hf (fun hf => ?_) (fun hf => ?_)
    · exact w_X2_spellRest_82 h0 h1 h2 h3 h4 h5 h6 h7 h8 h9 h10 h11 h12 h13 h14 h15 h16 C N x m_threes m_unit m_left_a m_left_b R  m_count m_primeA m_primeB m_norms m_euclid_count m_euclid_last_a m_euclid_last_b m_euclid_lastOfFirst_a m_euclid_lastOfFirst_b m_euclid_lastOfSecond_a m_euclid_lastOfSecond_b m_euclid_next_a m_euclid_next_b m_euclid_nextOfFirst_a m_euclid_nextOfFirst_b m_euclid_nextOfSecond_a m_euclid_nextOfSecond_b m_euclid_q_a m_euclid_q_b m_euclid_quotientA m_euclid_quotientB m_found_a m_found_b v1 _ _ _ X (lv_sub hl [0, 1] rfl) hf
    refine x_lload_n 21 C dX2_spellRest_20 hl 2 rfl rfl ?_
    refine x_lload_n 22 C dX2_spellRest_21 hl 2 rfl rfl ?_
    refine x_lmul 23 C dX2_spellRest_22 rfl ?_
    refine x_lload_n 24 C dX2_spellRest_23 hl 1 rfl rfl ?_
    refine x_lcmp_gt 82 25 28 C dX2_spellRest_24 dX2_spellRest_25 rfl rfl rfl hf (fun hf => ?_) (fun hf => ?_)
    · exact w_X2_spellRest_82 h0 h1 h2 h3 h4 h5 h6 h7 h8 h9 h10 h11 h12 h13 h14 h15 h16 C N x m_threes m_unit m_left_a m_left_b R  m_count m_primeA m_primeB m_norms m_euclid_count m_euclid_last_a m_euclid_last_b m_euclid_lastOfFirst_a m_euclid_lastOfFirst_b m_euclid_lastOfSecond_a m_euclid_lastOfSecond_b m_euclid_next_a m_euclid_next_b m_euclid_nextOfFirst_a m_euclid_nextOfFirst_b m_euclid_nextOfSecond_a m_euclid_nextOfSecond_b m_euclid_q_a m_euclid_q_b m_euclid_quotientA m_euclid_quotientB m_found_a m_found_b v1 _ _ _ X (lv_sub hl [0, 1] rfl) hf
    refine x_lload_n 29 C dX2_spellRest_28 hl 1 rfl rfl ?_
    refine x_lload_n 30 C dX2_spellRest_29 hl 2 rfl rfl ?_
    refine x_lrem 31 C dX2_spellRest_30 hf rfl (fun hf => ?_)
    refine x_lconst 32 C dX2_spellRest_31 (0 : Int64) kv_lconst_0 rfl ?_
    refine x_lcmp_ne 73 33 36 C dX2_spellRest_32 dX2_spellRest_33 rfl rfl rfl hf (fun hf => ?_) (fun hf => ?_)
    · refine x_lload_n 74 C dX2_spellRest_73 hl 2 rfl rfl ?_
      refine x_ldc2_w 77 C dX2_spellRest_74 (6 : Int64) kc_X2_116 rfl ?_
      refine x_ladd 78 C dX2_spellRest_77 rfl ?_
      refine x_lstore_n 79 C dX2_spellRest_78 [(3, .long (v3 + (6 : Int64))), (0, .ref h0), (1, .long v1)] hl rfl rfl rfl (fun ls hl => ?_)
      refine x_goto 12 C dX2_spellRest_79 rfl ?_
      exact ih m_count m_primeA m_primeB m_norms m_euclid_count m_euclid_last_a m_euclid_last_b m_euclid_lastOfFirst_a m_euclid_lastOfFirst_b m_euclid_lastOfSecond_a m_euclid_lastOfSecond_b m_euclid_next_a m_euclid_next_b m_euclid_nextOfFirst_a m_euclid_nextOfFirst_b m_euclid_nextOfSecond_a m_euclid_nextOfSecond_b m_euclid_q_a m_euclid_q_b m_euclid_quotientA m_euclid_quotientB m_found_a m_found_b v1 (v3 + (6 : Int64)) _ _ _ X (lv_sub hl [1, 2, 0] rfl) hf
    refine x_aload_n 37 C dX2_spellRest_36 hl 0 rfl rfl ?_
    refine x_lload_n 38 C dX2_spellRest_37 hl 2 rfl rfl ?_
    obtain ⟨y38, hy38, hf⟩ := kx_bind hf
    refine x_callVv 41 C dX2_spellRest_38 X hl kl_X2_113 (c_X2_findDivisorOf E.2.1 D T h0 h1 h2 h3 h4 h5 h6 h7 h8 h9 h10 h11 h12 h13 h14 h15 h16 N v3 m_count m_threes m_unit m_euclid_count m_euclid_last_a m_euclid_last_b m_euclid_lastOfFirst_a m_euclid_lastOfFirst_b m_euclid_lastOfSecond_a m_euclid_lastOfSecond_b m_euclid_next_a m_euclid_next_b m_euclid_nextOfFirst_a m_euclid_nextOfFirst_b m_euclid_nextOfSecond_a m_euclid_nextOfSecond_b m_euclid_q_a m_euclid_q_b m_euclid_quotientA m_euclid_quotientB m_left_a m_left_b m_found_a m_found_b y38 hy38) rfl rfl [] rfl rfl rfl rfl rfl cb_30 rfl (fun H locs X => ?_)
    refine x_iconst 42 C dX2_spellRest_41 (0 : Int32) kv_iconst_0 rfl ?_
    refine x_istore 44 C dX2_spellRest_42 [(5, .int (0 : Int32)), (0, .ref h0), (1, .long v1), (3, .long v3)] hl rfl rfl rfl (fun ls hl => ?_)
    exact w_X2_spellRest_44 h0 h1 h2 h3 h4 h5 h6 h7 h8 h9 h10 h11 h12 h13 h14 h15 h16 C N x m_threes m_unit m_left_a m_left_b R (f_X2_spellRest_12 N k) ih N m_count m_primeA m_primeB m_norms y38.1 y38.2.1 y38.2.2.1 y38.2.2.2.1 y38.2.2.2.2.1 y38.2.2.2.2.2.1 y38.2.2.2.2.2.2.1 y38.2.2.2.2.2.2.2.1 y38.2.2.2.2.2.2.2.2.1 y38.2.2.2.2.2.2.2.2.2.1 y38.2.2.2.2.2.2.2.2.2.2.1 y38.2.2.2.2.2.2.2.2.2.2.2.1 y38.2.2.2.2.2.2.2.2.2.2.2.2.1 y38.2.2.2.2.2.2.2.2.2.2.2.2.2.1 y38.2.2.2.2.2.2.2.2.2.2.2.2.2.2.1 y38.2.2.2.2.2.2.2.2.2.2.2.2.2.2.2.1 y38.2.2.2.2.2.2.2.2.2.2.2.2.2.2.2.2.1 y38.2.2.2.2.2.2.2.2.2.2.2.2.2.2.2.2.2.1 y38.2.2.2.2.2.2.2.2.2.2.2.2.2.2.2.2.2.2 v1 v3 (0 : Int32) _ _ _ X (lv_sub hl [1, 2, 3, 0] rfl) hf
set_option maxHeartbeats 4000000 in
set_option maxRecDepth 100000 in
theorem c_X2_spellRest (l : Launch) (D : va_G) (T : KT) (h0 h1 h2 h3 h4 h5 h6 h7 h8 h9 h10 h11 h12 h13 h14 h15 h16 : Nat) (N : Nat)  (m_count m_threes m_unit : Int32) (m_primeA m_primeB m_norms : Nat → Int64) (m_euclid_count : Int32) (m_euclid_last_a m_euclid_last_b m_euclid_lastOfFirst_a m_euclid_lastOfFirst_b m_euclid_lastOfSecond_a m_euclid_lastOfSecond_b m_euclid_next_a m_euclid_next_b m_euclid_nextOfFirst_a m_euclid_nextOfFirst_b m_euclid_nextOfSecond_a m_euclid_nextOfSecond_b m_euclid_q_a m_euclid_q_b : Int64) (m_euclid_quotientA m_euclid_quotientB : Nat → Int64) (m_left_a m_left_b m_found_a m_found_b : Int64) (x : Int32 × (Nat → Int64) × (Nat → Int64) × (Nat → Int64) × Int32 × Int64 × Int64 × Int64 × Int64 × Int64 × Int64 × Int64 × Int64 × Int64 × Int64 × Int64 × Int64 × Int64 × Int64 × (Nat → Int64) × (Nat → Int64) × Int64 × Int64) (hf : f_X2_spellRest N m_count m_primeA m_primeB m_norms m_euclid_count m_euclid_last_a m_euclid_last_b m_euclid_lastOfFirst_a m_euclid_lastOfFirst_b m_euclid_lastOfSecond_a m_euclid_lastOfSecond_b m_euclid_next_a m_euclid_next_b m_euclid_nextOfFirst_a m_euclid_nextOfFirst_b m_euclid_nextOfSecond_a m_euclid_nextOfSecond_b m_euclid_q_a m_euclid_q_b m_euclid_quotientA m_euclid_quotientB m_left_a m_left_b m_found_a m_found_b = some x) : kx_MV l yX2_spellRest cX2_spellRest 6 none 4 98 D T [.ref h0] (w21_X2 T h0 h1 h2 h3 h4 h5 h6 h7 h8 h9 h10 h11 h12 h13 h14 h15 h16 m_count m_threes m_unit m_primeA m_primeB m_norms m_euclid_count m_euclid_last_a m_euclid_last_b m_euclid_lastOfFirst_a m_euclid_lastOfFirst_b m_euclid_lastOfSecond_a m_euclid_lastOfSecond_b m_euclid_next_a m_euclid_next_b m_euclid_nextOfFirst_a m_euclid_nextOfFirst_b m_euclid_nextOfSecond_a m_euclid_nextOfSecond_b m_euclid_q_a m_euclid_q_b m_euclid_quotientA m_euclid_quotientB m_left_a m_left_b m_found_a m_found_b) (w21_X2 T h0 h1 h2 h3 h4 h5 h6 h7 h8 h9 h10 h11 h12 h13 h14 h15 h16 x.1 m_threes m_unit x.2.1 x.2.2.1 x.2.2.2.1 x.2.2.2.2.1 x.2.2.2.2.2.1 x.2.2.2.2.2.2.1 x.2.2.2.2.2.2.2.1 x.2.2.2.2.2.2.2.2.1 x.2.2.2.2.2.2.2.2.2.1 x.2.2.2.2.2.2.2.2.2.2.1 x.2.2.2.2.2.2.2.2.2.2.2.1 x.2.2.2.2.2.2.2.2.2.2.2.2.1 x.2.2.2.2.2.2.2.2.2.2.2.2.2.1 x.2.2.2.2.2.2.2.2.2.2.2.2.2.2.1 x.2.2.2.2.2.2.2.2.2.2.2.2.2.2.2.1 x.2.2.2.2.2.2.2.2.2.2.2.2.2.2.2.2.1 x.2.2.2.2.2.2.2.2.2.2.2.2.2.2.2.2.2.1 x.2.2.2.2.2.2.2.2.2.2.2.2.2.2.2.2.2.2.1 x.2.2.2.2.2.2.2.2.2.2.2.2.2.2.2.2.2.2.2.1 x.2.2.2.2.2.2.2.2.2.2.2.2.2.2.2.2.2.2.2.2.1 m_left_a m_left_b x.2.2.2.2.2.2.2.2.2.2.2.2.2.2.2.2.2.2.2.2.2.1 x.2.2.2.2.2.2.2.2.2.2.2.2.2.2.2.2.2.2.2.2.2.2) := by
  refine kx_ofMV RX2 rfl (plainFor_of_name (x := yX2_spellRest) kpn_X2) rfl ?_
  intro E A H ls _ C X R hl
  have hl : lv_has ls 6 [(0, .ref h0)] := hl
  rw [f_X2_spellRest] at hf
  refine x_aload_n 1 C dX2_spellRest_0 hl 0 rfl rfl ?_
  refine x_get 4 C dX2_spellRest_1 X kf_X2_29 0 rfl rfl rfl ?_
  obtain ⟨y4, hy4, hf⟩ := kx_bind hf
  refine x_callVl 7 C dX2_spellRest_4 X hl kl_X2_105 (c_X5_norm E.2.1 D T h14  m_left_a m_left_b y4 hy4) rfl rfl [] rfl rfl rfl rfl rfl cb_31 rfl (fun H locs X => ?_)
  refine x_lstore_n 8 C dX2_spellRest_7 [(1, .long y4), (0, .ref h0)] hl rfl rfl rfl (fun ls hl => ?_)
  refine x_ldc2_w 11 C dX2_spellRest_8 (7 : Int64) kc_X2_109 rfl ?_
  refine x_lstore_n 12 C dX2_spellRest_11 [(3, .long (7 : Int64)), (1, .long y4), (0, .ref h0)] hl rfl rfl rfl (fun ls hl => ?_)
  exact w_X2_spellRest_12 h0 h1 h2 h3 h4 h5 h6 h7 h8 h9 h10 h11 h12 h13 h14 h15 h16 C N x m_threes m_unit m_left_a m_left_b R  N m_count m_primeA m_primeB m_norms m_euclid_count m_euclid_last_a m_euclid_last_b m_euclid_lastOfFirst_a m_euclid_lastOfFirst_b m_euclid_lastOfSecond_a m_euclid_lastOfSecond_b m_euclid_next_a m_euclid_next_b m_euclid_nextOfFirst_a m_euclid_nextOfFirst_b m_euclid_nextOfSecond_a m_euclid_nextOfSecond_b m_euclid_q_a m_euclid_q_b m_euclid_quotientA m_euclid_quotientB m_found_a m_found_b y4 (7 : Int64) _ _ _ X (lv_sub hl [2, 1, 0] rfl) hf
set_option maxHeartbeats 4000000 in
set_option maxRecDepth 100000 in
theorem c_X5_isSame (l : Launch) (D : va_G) (T : KT) (h0 h1 : Nat)  (m_a m_b m_p1_a m_p1_b : Int64) (x : Int32) (hf : f_X5_isSame m_a m_b m_p1_a m_p1_b = some x) : kx_MI l yX5_isSame cX5_isSame 2 (some .boolean) 0 0 D T [.ref h0, .ref h1] (w12_X5 T h0 h1 m_a m_b m_p1_a m_p1_b) (w12_X5 T h0 h1 m_a m_b m_p1_a m_p1_b) x := by
  refine kx_ofMZ RX5 rfl (plainFor_of_name (x := yX5_isSame) kpn_X5) rfl ?_
  intro E A H ls _ C X R hl
  have hl : lv_has ls 2 [(0, .ref h0), (1, .ref h1)] := hl
  rw [f_X5_isSame] at hf
  refine x_aload_n 1 C dX5_isSame_0 hl 0 rfl rfl ?_
  refine x_get 4 C dX5_isSame_1 X kf_X5_9 0 rfl rfl rfl ?_
  refine x_aload_n 5 C dX5_isSame_4 hl 1 rfl rfl ?_
  refine x_get 8 C dX5_isSame_5 X kf_X5_9 1 rfl rfl rfl ?_
  refine x_lcmp_ne 28 9 12 C dX5_isSame_8 dX5_isSame_9 rfl rfl rfl hf (fun hf => ?_) (fun hf => ?_)
  · refine x_iconst 29 C dX5_isSame_28 (0 : Int32) kv_iconst_0 rfl ?_
    obtain rfl := Option.some.inj hf
    exact R _ _ _ _ X kb_0 dX5_isSame_29
  refine x_aload_n 13 C dX5_isSame_12 hl 0 rfl rfl ?_
  refine x_get 16 C dX5_isSame_13 X kf_X5_15 0 rfl rfl rfl ?_
  refine x_aload_n 17 C dX5_isSame_16 hl 1 rfl rfl ?_
  refine x_get 20 C dX5_isSame_17 X kf_X5_15 1 rfl rfl rfl ?_
  refine x_lcmp_ne 28 21 24 C dX5_isSame_20 dX5_isSame_21 rfl rfl rfl hf (fun hf => ?_) (fun hf => ?_)
  · refine x_iconst 29 C dX5_isSame_28 (0 : Int32) kv_iconst_0 rfl ?_
    obtain rfl := Option.some.inj hf
    exact R _ _ _ _ X kb_0 dX5_isSame_29
  refine x_iconst 25 C dX5_isSame_24 (1 : Int32) kv_iconst_1 rfl ?_
  refine x_goto 29 C dX5_isSame_25 rfl ?_
  obtain rfl := Option.some.inj hf
  exact R _ _ _ _ X kb_1 dX5_isSame_29
set_option maxHeartbeats 4000000 in
set_option maxRecDepth 100000 in
theorem c_X5_multiply (l : Launch) (D : va_G) (T : KT) (h0 h1 : Nat)  (m_a m_b m_p1_a m_p1_b : Int64) (x : Int64 × Int64) (hf : f_X5_multiply m_a m_b m_p1_a m_p1_b = some x) : kx_MV l yX5_multiply cX5_multiply 6 none 0 0 D T [.ref h0, .ref h1] (w12_X5 T h0 h1 m_a m_b m_p1_a m_p1_b) (w12_X5 T h0 h1 x.1 x.2 m_p1_a m_p1_b) := by
  refine kx_ofMV RX5 rfl (plainFor_of_name (x := yX5_multiply) kpn_X5) rfl ?_
  intro E A H ls _ C X R hl
  have hl : lv_has ls 6 [(0, .ref h0), (1, .ref h1)] := hl
  rw [f_X5_multiply] at hf
  refine x_aload_n 1 C dX5_multiply_0 hl 0 rfl rfl ?_
  refine x_get 4 C dX5_multiply_1 X kf_X5_15 0 rfl rfl rfl ?_
  refine x_aload_n 5 C dX5_multiply_4 hl 1 rfl rfl ?_
  refine x_get 8 C dX5_multiply_5 X kf_X5_15 1 rfl rfl rfl ?_
  refine x_lmul 9 C dX5_multiply_8 rfl ?_
  refine x_lstore_n 10 C dX5_multiply_9 [(2, .long (m_b * m_p1_b)), (0, .ref h0), (1, .ref h1)] hl rfl rfl rfl (fun ls hl => ?_)
  refine x_aload_n 11 C dX5_multiply_10 hl 1 rfl rfl ?_
  refine x_get 14 C dX5_multiply_11 X kf_X5_9 0 rfl rfl rfl ?_
  refine x_aload_n 15 C dX5_multiply_14 hl 2 rfl rfl ?_
  refine x_get 18 C dX5_multiply_15 X kf_X5_15 1 rfl rfl rfl ?_
  refine x_lmul 19 C dX5_multiply_18 rfl ?_
  refine x_aload_n 20 C dX5_multiply_19 hl 1 rfl rfl ?_
  refine x_get 23 C dX5_multiply_20 X kf_X5_15 0 rfl rfl rfl ?_
  refine x_aload_n 24 C dX5_multiply_23 hl 2 rfl rfl ?_
  refine x_get 27 C dX5_multiply_24 X kf_X5_9 1 rfl rfl rfl ?_
  refine x_lmul 28 C dX5_multiply_27 rfl ?_
  refine x_ladd 29 C dX5_multiply_28 rfl ?_
  refine x_lload_n 30 C dX5_multiply_29 hl 0 rfl rfl ?_
  refine x_lsub 31 C dX5_multiply_30 rfl ?_
  refine x_lstore 33 C dX5_multiply_31 [(4, .long (((m_a * m_p1_b) + (m_b * m_p1_a)) - (m_b * m_p1_b))), (2, .long (m_b * m_p1_b)), (0, .ref h0), (1, .ref h1)] hl rfl rfl rfl (fun ls hl => ?_)
  refine x_aload_n 34 C dX5_multiply_33 hl 2 rfl rfl ?_
  refine x_aload_n 35 C dX5_multiply_34 hl 2 rfl rfl ?_
  refine x_get 38 C dX5_multiply_35 X kf_X5_9 0 rfl rfl rfl ?_
  refine x_aload_n 39 C dX5_multiply_38 hl 3 rfl rfl ?_
  refine x_get 42 C dX5_multiply_39 X kf_X5_9 1 rfl rfl rfl ?_
  refine x_lmul 43 C dX5_multiply_42 rfl ?_
  refine x_lload_n 44 C dX5_multiply_43 hl 1 rfl rfl ?_
  refine x_lsub 45 C dX5_multiply_44 rfl ?_
  refine x_put 48 C dX5_multiply_45 X kp_X5_9 0 rfl rfl rfl rfl (w12_X5 T h0 h1 ((m_a * m_p1_a) - (m_b * m_p1_b)) m_b m_p1_a m_p1_b) rfl rfl (fun H locs X => ?_)
  refine x_aload_n 49 C dX5_multiply_48 hl 2 rfl rfl ?_
  refine x_lload 51 C dX5_multiply_49 hl 0 rfl rfl ?_
  refine x_put 54 C dX5_multiply_51 X kp_X5_15 0 rfl rfl rfl rfl (w12_X5 T h0 h1 ((m_a * m_p1_a) - (m_b * m_p1_b)) (((m_a * m_p1_b) + (m_b * m_p1_a)) - (m_b * m_p1_b)) m_p1_a m_p1_b) rfl rfl (fun H locs X => ?_)
  obtain rfl := Option.some.inj hf
  exact R _ _ _ _ X dX5_multiply_54
set_option maxHeartbeats 4000000 in
set_option maxRecDepth 100000 in
theorem c_X2_load_p2_found (l : Launch) (D : va_G) (T : KT) (h0 h1 h2 h3 h4 h5 h6 h7 : Nat) (v1 : Int32) (m_count m_threes m_unit : Int32) (m_primeA m_primeB : Nat → Int64) (m_found_a m_found_b : Int64) (x : Int64 × Int64) (hf : f_X2_load v1 m_count m_primeA m_primeB m_found_a m_found_b = some x) : kx_MV l yX2_load cX2_load 3 none 1 24 D T [.ref h0, .int v1, .ref h6] (w28_X2 T h0 h1 h2 h3 h4 h5 h6 h7 m_count m_threes m_unit m_primeA m_primeB m_found_a m_found_b) (w28_X2 T h0 h1 h2 h3 h4 h5 h6 h7 m_count m_threes m_unit m_primeA m_primeB x.1 x.2) := by
  refine kx_ofMV RX2 rfl (plainFor_of_name (x := yX2_load) kpn_X2) rfl ?_
  intro E A H ls _ C X R hl
  have hl : lv_has ls 3 [(0, .ref h0), (1, .int v1), (2, .ref h6)] := hl
  rw [f_X2_load] at hf
  refine x_iload_n 1 C dX2_load_0 hl 1 rfl rfl ?_
  refine x_if_lt 34 4 C dX2_load_1 rfl rfl hf (fun hf => ?_) (fun hf => ?_)
  · obtain rfl := Option.some.inj hf
    exact R _ _ _ _ X dX2_load_34
  refine x_iload_n 5 C dX2_load_4 hl 1 rfl rfl ?_
  refine x_aload_n 6 C dX2_load_5 hl 0 rfl rfl ?_
  refine x_get 9 C dX2_load_6 X kf_X2_39 0 rfl rfl rfl ?_
  refine x_icmp_ge 34 12 C dX2_load_9 rfl rfl hf (fun hf => ?_) (fun hf => ?_)
  · obtain rfl := Option.some.inj hf
    exact R _ _ _ _ X dX2_load_34
  refine x_iload_n 13 C dX2_load_12 hl 1 rfl rfl ?_
  refine x_bipush 15 C dX2_load_13 (32 : Int32) kv_bipush_32 rfl ?_
  refine x_icmp_ge 34 18 C dX2_load_15 rfl rfl hf (fun hf => ?_) (fun hf => ?_)
  · obtain rfl := Option.some.inj hf
    exact R _ _ _ _ X dX2_load_34
  refine x_aload_n 19 C dX2_load_18 hl 2 rfl rfl ?_
  refine x_aload_n 20 C dX2_load_19 hl 0 rfl rfl ?_
  refine x_get 23 C dX2_load_20 X kf_X2_9 0 rfl rfl rfl ?_
  refine x_iload_n 24 C dX2_load_23 hl 1 rfl rfl ?_
  refine x_lald 25 C dX2_load_24 X 1 rfl hf rfl (fun hf => ?_)
  refine x_aload_n 26 C dX2_load_25 hl 0 rfl rfl ?_
  refine x_get 29 C dX2_load_26 X kf_X2_13 0 rfl rfl rfl ?_
  refine x_iload_n 30 C dX2_load_29 hl 1 rfl rfl ?_
  refine x_lald 31 C dX2_load_30 X 2 rfl hf rfl (fun hf => ?_)
  obtain ⟨y31, hy31, hf⟩ := kx_bind hf
  refine x_callVv 34 C dX2_load_31 X hl kl_X2_70 (c_X5_set E.2.1 D T h6 (m_primeA (v1).toNatClampNeg) (m_primeB (v1).toNatClampNeg) m_found_a m_found_b y31 hy31) rfl rfl [] rfl rfl rfl rfl rfl cb_54 rfl (fun H locs X => ?_)
  obtain rfl := Option.some.inj hf
  exact R _ _ _ _ X dX2_load_34
