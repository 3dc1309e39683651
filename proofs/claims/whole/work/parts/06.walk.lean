set_option maxHeartbeats 4000000 in
set_option maxRecDepth 100000 in
theorem c_X5_norm (l : Launch) (D : va_G) (T : KT) (h0 : Nat)  (m_a m_b : Int64) (x : Int64) (hf : f_X5_norm m_a m_b = some x) : kx_ML l yX5_norm cX5_norm 1 (some .long) 0 0 D T [.ref h0] (w_X5_ T h0 m_a m_b) (w_X5_ T h0 m_a m_b) x := by
  refine kx_ofML RX5 rfl (plainFor_of_name (x := yX5_norm) kpn_X5) rfl ?_
  intro E A H ls _ C X R hl
  have hl : lv_has ls 1 [(0, .ref h0)] := hl
  rw [f_X5_norm] at hf
  refine x_aload_n 1 C dX5_norm_0 hl 0 rfl rfl ?_
  refine x_get 4 C dX5_norm_1 X kf_X5_9 0 rfl rfl rfl ?_
  refine x_aload_n 5 C dX5_norm_4 hl 0 rfl rfl ?_
  refine x_get 8 C dX5_norm_5 X kf_X5_9 0 rfl rfl rfl ?_
  refine x_lmul 9 C dX5_norm_8 rfl ?_
  refine x_aload_n 10 C dX5_norm_9 hl 0 rfl rfl ?_
  refine x_get 13 C dX5_norm_10 X kf_X5_9 0 rfl rfl rfl ?_
  refine x_aload_n 14 C dX5_norm_13 hl 0 rfl rfl ?_
  refine x_get 17 C dX5_norm_14 X kf_X5_15 0 rfl rfl rfl ?_
  refine x_lmul 18 C dX5_norm_17 rfl ?_
  refine x_lsub 19 C dX5_norm_18 rfl ?_
  refine x_aload_n 20 C dX5_norm_19 hl 0 rfl rfl ?_
  refine x_get 23 C dX5_norm_20 X kf_X5_15 0 rfl rfl rfl ?_
  refine x_aload_n 24 C dX5_norm_23 hl 0 rfl rfl ?_
  refine x_get 27 C dX5_norm_24 X kf_X5_15 0 rfl rfl rfl ?_
  refine x_lmul 28 C dX5_norm_27 rfl ?_
  refine x_ladd 29 C dX5_norm_28 rfl ?_
  cases hf
  exact R _ _ _ _ X dX5_norm_29
set_option maxHeartbeats 4000000 in
set_option maxRecDepth 100000 in
theorem c_X5_multiply (l : Launch) (D : va_G) (T : KT) (h0 h1 : Nat)  (m_a m_b m_p1_a m_p1_b : Int64) (x : Int64 × Int64) (hf : f_X5_multiply m_a m_b m_p1_a m_p1_b = some x) : kx_MV l yX5_multiply cX5_multiply 6 none 0 0 D T [.ref h0, .ref h1] (w_X5_1X5 T h0 h1 m_a m_b m_p1_a m_p1_b) (w_X5_1X5 T h0 h1 x.1 x.2 m_p1_a m_p1_b) := by
  refine kx_ofMV RX5 rfl (plainFor_of_name (x := yX5_multiply) kpn_X5) rfl ?_
  intro E A H ls _ C X R hl
  have hl : lv_has ls 6 [(0, .ref h0), (1, .ref h1)] := hl
  rw [f_X5_multiply] at hf
  refine x_aload_n 1 C dX5_multiply_0 hl 0 rfl rfl ?_
  refine x_get 4 C dX5_multiply_1 X kf_X5_15 0 rfl rfl rfl ?_
  refine x_aload_n 5 C dX5_multiply_4 hl 1 rfl rfl ?_
  refine x_get 8 C dX5_multiply_5 X kf_X5_15 1 rfl rfl rfl ?_
  refine x_lmul 9 C dX5_multiply_8 rfl ?_
  refine x_lstore_n 10 C dX5_multiply_9 [(2, .long (m_b * m_p1_b)), (0, .ref h0), (1, .ref h1)] hl rfl rfl rfl (fun ls hl => ?_)
  refine x_aload_n 11 C dX5_multiply_10 hl 1 rfl rfl ?_
  refine x_get 14 C dX5_multiply_11 X kf_X5_9 0 rfl rfl rfl ?_
  refine x_aload_n 15 C dX5_multiply_14 hl 2 rfl rfl ?_
  refine x_get 18 C dX5_multiply_15 X kf_X5_15 1 rfl rfl rfl ?_
  refine x_lmul 19 C dX5_multiply_18 rfl ?_
  refine x_aload_n 20 C dX5_multiply_19 hl 1 rfl rfl ?_
  refine x_get 23 C dX5_multiply_20 X kf_X5_15 0 rfl rfl rfl ?_
  refine x_aload_n 24 C dX5_multiply_23 hl 2 rfl rfl ?_
  refine x_get 27 C dX5_multiply_24 X kf_X5_9 1 rfl rfl rfl ?_
  refine x_lmul 28 C dX5_multiply_27 rfl ?_
  refine x_ladd 29 C dX5_multiply_28 rfl ?_
  refine x_lload_n 30 C dX5_multiply_29 hl 0 rfl rfl ?_
  refine x_lsub 31 C dX5_multiply_30 rfl ?_
  refine x_lstore 33 C dX5_multiply_31 [(4, .long (((m_a * m_p1_b) + (m_b * m_p1_a)) - (m_b * m_p1_b))), (2, .long (m_b * m_p1_b)), (0, .ref h0), (1, .ref h1)] hl rfl rfl rfl (fun ls hl => ?_)
  refine x_aload_n 34 C dX5_multiply_33 hl 2 rfl rfl ?_
  refine x_aload_n 35 C dX5_multiply_34 hl 2 rfl rfl ?_
  refine x_get 38 C dX5_multiply_35 X kf_X5_9 0 rfl rfl rfl ?_
  refine x_aload_n 39 C dX5_multiply_38 hl 3 rfl rfl ?_
  refine x_get 42 C dX5_multiply_39 X kf_X5_9 1 rfl rfl rfl ?_
  refine x_lmul 43 C dX5_multiply_42 rfl ?_
  refine x_lload_n 44 C dX5_multiply_43 hl 1 rfl rfl ?_
  refine x_lsub 45 C dX5_multiply_44 rfl ?_
  refine x_put 48 C dX5_multiply_45 X kp_X5_9 0 rfl rfl rfl rfl (w_X5_1X5 T h0 h1 ((m_a * m_p1_a) - (m_b * m_p1_b)) m_b m_p1_a m_p1_b) rfl rfl (fun H locs X => ?_)
  refine x_aload_n 49 C dX5_multiply_48 hl 2 rfl rfl ?_
  refine x_lload 51 C dX5_multiply_49 hl 0 rfl rfl ?_
  refine x_put 54 C dX5_multiply_51 X kp_X5_15 0 rfl rfl rfl rfl (w_X5_1X5 T h0 h1 ((m_a * m_p1_a) - (m_b * m_p1_b)) (((m_a * m_p1_b) + (m_b * m_p1_a)) - (m_b * m_p1_b)) m_p1_a m_p1_b) rfl rfl (fun H locs X => ?_)
  cases hf
  exact R _ _ _ _ X dX5_multiply_54
set_option maxHeartbeats 4000000 in
set_option maxRecDepth 100000 in
theorem c_X5_isNought (l : Launch) (D : va_G) (T : KT) (h0 : Nat)  (m_a m_b : Int64) (x : Int32) (hf : f_X5_isNought m_a m_b = some x) : kx_MI l yX5_isNought cX5_isNought 1 (some .boolean) 0 0 D T [.ref h0] (w_X5_ T h0 m_a m_b) (w_X5_ T h0 m_a m_b) x := by
  refine kx_ofMZ RX5 rfl (plainFor_of_name (x := yX5_isNought) kpn_X5) rfl ?_
  intro E A H ls _ C X R hl
  have hl : lv_has ls 1 [(0, .ref h0)] := hl
  rw [f_X5_isNought] at hf
  refine x_aload_n 1 C dX5_isNought_0 hl 0 rfl rfl ?_
  refine x_get 4 C dX5_isNought_1 X kf_X5_9 0 rfl rfl rfl ?_
  refine x_lconst 5 C dX5_isNought_4 (0 : Int64) kv_lconst_0 rfl ?_
  refine x_lcmp_ne 22 6 9 C dX5_isNought_5 dX5_isNought_6 rfl rfl rfl hf (fun hf => ?_) (fun hf => ?_)
  · refine x_iconst 23 C dX5_isNought_22 (0 : Int32) kv_iconst_0 rfl ?_
    cases hf
    exact R _ _ _ _ X kb_0 dX5_isNought_23
  refine x_aload_n 10 C dX5_isNought_9 hl 0 rfl rfl ?_
  refine x_get 13 C dX5_isNought_10 X kf_X5_15 0 rfl rfl rfl ?_
  refine x_lconst 14 C dX5_isNought_13 (0 : Int64) kv_lconst_0 rfl ?_
  refine x_lcmp_ne 22 15 18 C dX5_isNought_14 dX5_isNought_15 rfl rfl rfl hf (fun hf => ?_) (fun hf => ?_)
  · refine x_iconst 23 C dX5_isNought_22 (0 : Int32) kv_iconst_0 rfl ?_
    cases hf
    exact R _ _ _ _ X kb_0 dX5_isNought_23
  refine x_iconst 19 C dX5_isNought_18 (1 : Int32) kv_iconst_1 rfl ?_
  refine x_goto 23 C dX5_isNought_19 rfl ?_
  cases hf
  exact R _ _ _ _ X kb_1 dX5_isNought_23
set_option maxHeartbeats 4000000 in
set_option maxRecDepth 100000 in
theorem c_X5_isOfThree (l : Launch) (D : va_G) (T : KT) (h0 : Nat)  (m_a m_b : Int64) (x : Int32) (hf : f_X5_isOfThree m_a m_b = some x) : kx_MI l yX5_isOfThree cX5_isOfThree 1 (some .boolean) 0 0 D T [.ref h0] (w_X5_ T h0 m_a m_b) (w_X5_ T h0 m_a m_b) x := by
  refine kx_ofMZ RX5 rfl (plainFor_of_name (x := yX5_isOfThree) kpn_X5) rfl ?_
  intro E A H ls _ C X R hl
  have hl : lv_has ls 1 [(0, .ref h0)] := hl
  rw [f_X5_isOfThree] at hf
  refine x_aload_n 1 C dX5_isOfThree_0 hl 0 rfl rfl ?_
  refine x_get 4 C dX5_isOfThree_1 X kf_X5_9 0 rfl rfl rfl ?_
  refine x_aload_n 5 C dX5_isOfThree_4 hl 0 rfl rfl ?_
  refine x_get 8 C dX5_isOfThree_5 X kf_X5_15 0 rfl rfl rfl ?_
  refine x_ladd 9 C dX5_isOfThree_8 rfl ?_
  refine x_ldc2_w 12 C dX5_isOfThree_9 (3 : Int64) kc_X5_26 rfl ?_
  refine x_lrem0 13 C dX5_isOfThree_12 kz_l_3 rfl ?_
  refine x_lconst 14 C dX5_isOfThree_13 (0 : Int64) kv_lconst_0 rfl ?_
  refine x_lcmp_ne 22 15 18 C dX5_isOfThree_14 dX5_isOfThree_15 rfl rfl rfl hf (fun hf => ?_) (fun hf => ?_)
  · refine x_iconst 23 C dX5_isOfThree_22 (0 : Int32) kv_iconst_0 rfl ?_
    cases hf
    exact R _ _ _ _ X kb_0 dX5_isOfThree_23
  refine x_iconst 19 C dX5_isOfThree_18 (1 : Int32) kv_iconst_1 rfl ?_
  refine x_goto 23 C dX5_isOfThree_19 rfl ?_
  cases hf
  exact R _ _ _ _ X kb_1 dX5_isOfThree_23
set_option maxHeartbeats 4000000 in
set_option maxRecDepth 100000 in
theorem c_X5_set (l : Launch) (D : va_G) (T : KT) (h0 : Nat) (v1 v3 : Int64) (m_a m_b : Int64) (x : Int64 × Int64) (hf : f_X5_set v1 v3 = some x) : kx_MV l yX5_set cX5_set 5 none 0 0 D T [.ref h0, .long v1, .long v3] (w_X5_ T h0 m_a m_b) (w_X5_ T h0 x.1 x.2) := by
  refine kx_ofMV RX5 rfl (plainFor_of_name (x := yX5_set) kpn_X5) rfl ?_
  intro E A H ls _ C X R hl
  have hl : lv_has ls 5 [(0, .ref h0), (1, .long v1), (3, .long v3)] := hl
  rw [f_X5_set] at hf
  refine x_aload_n 1 C dX5_set_0 hl 0 rfl rfl ?_
  refine x_lload_n 2 C dX5_set_1 hl 1 rfl rfl ?_
  refine x_put 5 C dX5_set_2 X kp_X5_9 0 rfl rfl rfl rfl (w_X5_ T h0 v1 m_b) rfl rfl (fun H locs X => ?_)
  refine x_aload_n 6 C dX5_set_5 hl 0 rfl rfl ?_
  refine x_lload_n 7 C dX5_set_6 hl 2 rfl rfl ?_
  refine x_put 10 C dX5_set_7 X kp_X5_15 0 rfl rfl rfl rfl (w_X5_ T h0 v1 v3) rfl rfl (fun H locs X => ?_)
  cases hf
  exact R _ _ _ _ X dX5_set_10
set_option maxHeartbeats 4000000 in
set_option maxRecDepth 100000 in
theorem w_X5_takeOutThrees_2 {E : KE} {A : Nat → Prop} {D : va_G} {T : KT} (h0 : Nat) (C : kx_C E cX5_takeOutThrees 2 (some .int) RX5 1 24 D T) (N : Nat) (x : Int32 × Int64 × Int64)  (R : kx_RI E cX5_takeOutThrees D A (w_X5_ T h0 x.2.1 x.2.2) x.1) : ∀ (k : Nat), ∀ (m_a m_b : Int64) (v1 : Int32) (H : Heap) (locs : List Loc) (ls : Array Slot), kx_H E D A H locs (w_X5_ T h0 m_a m_b) → lv_has ls 2 [(0, .ref h0), (1, .int v1)] → f_X5_takeOutThrees_2 N k v1 m_a m_b = some x → kx_W E H locs 2 ls [] := by
  intro k
  induction k with
  | zero =>
    intro m_a m_b v1 H locs ls X hl hf
    cases (show (none : Option (Int32 × Int64 × Int64)) = some x from hf)
  | succ k ih =>
    intro m_a m_b v1 H locs ls X hl hf
    rw [f_X5_takeOutThrees_2] at hf
    refine x_iload_n 3 C dX5_takeOutThrees_2 hl 1 rfl rfl ?_
    refine x_bipush 5 C dX5_takeOutThrees_3 (60 : Int32) kv_bipush_60 rfl ?_
    refine x_icmp_ge 62 8 C dX5_takeOutThrees_5 rfl rfl hf (fun hf => ?_) (fun hf => ?_)
    · refine x_iload_n 63 C dX5_takeOutThrees_62 hl 1 rfl rfl ?_
      cases hf
      exact R _ _ _ _ X dX5_takeOutThrees_63
    refine x_aload_n 9 C dX5_takeOutThrees_8 hl 0 rfl rfl ?_
    obtain ⟨y9, h9, hf⟩ := kx_bind hf
    refine x_callVi 12 C dX5_takeOutThrees_9 X hl kl_X5_58 (c_X5_isOfThree E.2.1 D T h0  m_a m_b y9 h9) rfl rfl [] rfl rfl rfl rfl rfl [0] rfl rfl rfl (w_X5_ T h0 m_a m_b) rfl rfl (fun H locs X => ?_)
    refine x_if_eq 62 15 C dX5_takeOutThrees_12 rfl rfl hf (fun hf => ?_) (fun hf => ?_)
    · refine x_iload_n 63 C dX5_takeOutThrees_62 hl 1 rfl rfl ?_
      cases hf
      exact R _ _ _ _ X dX5_takeOutThrees_63
    refine x_aload_n 16 C dX5_takeOutThrees_15 hl 0 rfl rfl ?_
    obtain ⟨y16, h16, hf⟩ := kx_bind hf
    refine x_callVi 19 C dX5_takeOutThrees_16 X hl kl_X5_40 (c_X5_isNought E.2.1 D T h0  m_a m_b y16 h16) rfl rfl [] rfl rfl rfl rfl rfl [0] rfl rfl rfl (w_X5_ T h0 m_a m_b) rfl rfl (fun H locs X => ?_)
    refine x_if_ne 62 22 C dX5_takeOutThrees_19 rfl rfl hf (fun hf => ?_) (fun hf => ?_)
    · refine x_iload_n 63 C dX5_takeOutThrees_62 hl 1 rfl rfl ?_
      cases hf
      exact R _ _ _ _ X dX5_takeOutThrees_63
    refine x_aload_n 23 C dX5_takeOutThrees_22 hl 0 rfl rfl ?_
    refine x_ldc2_w 26 C dX5_takeOutThrees_23 (2 : Int64) kc_X5_34 rfl ?_
    refine x_aload_n 27 C dX5_takeOutThrees_26 hl 0 rfl rfl ?_
    refine x_get 30 C dX5_takeOutThrees_27 X kf_X5_9 0 rfl rfl rfl ?_
    refine x_lmul 31 C dX5_takeOutThrees_30 rfl ?_
    refine x_aload_n 32 C dX5_takeOutThrees_31 hl 0 rfl rfl ?_
    refine x_get 35 C dX5_takeOutThrees_32 X kf_X5_15 0 rfl rfl rfl ?_
    refine x_lsub 36 C dX5_takeOutThrees_35 rfl ?_
    refine x_ldc2_w 39 C dX5_takeOutThrees_36 (3 : Int64) kc_X5_26 rfl ?_
    refine x_ldiv0 40 C dX5_takeOutThrees_39 kz_l_3 rfl ?_
    refine x_aload_n 41 C dX5_takeOutThrees_40 hl 0 rfl rfl ?_
    refine x_get 44 C dX5_takeOutThrees_41 X kf_X5_9 0 rfl rfl rfl ?_
    refine x_aload_n 45 C dX5_takeOutThrees_44 hl 0 rfl rfl ?_
    refine x_get 48 C dX5_takeOutThrees_45 X kf_X5_15 0 rfl rfl rfl ?_
    refine x_ladd 49 C dX5_takeOutThrees_48 rfl ?_
    refine x_ldc2_w 52 C dX5_takeOutThrees_49 (3 : Int64) kc_X5_26 rfl ?_
    refine x_ldiv0 53 C dX5_takeOutThrees_52 kz_l_3 rfl ?_
    obtain ⟨y53, h53, hf⟩ := kx_bind hf
    refine x_callVv 56 C dX5_takeOutThrees_53 X hl kl_X5_44 (c_X5_set E.2.1 D T h0 ((((2 : Int64) * m_a) - m_b) / (3 : Int64)) ((m_a + m_b) / (3 : Int64)) m_a m_b y53 h53) rfl rfl [] rfl rfl rfl rfl rfl [0] rfl rfl rfl (w_X5_ T h0 y53.1 y53.2) rfl rfl (fun H locs X => ?_)
    refine x_iinc 59 C dX5_takeOutThrees_56 (1 : Int32) kv_iconst_1 [(1, .int (v1 + (1 : Int32))), (0, .ref h0)] hl 1 rfl rfl rfl rfl (fun ls hl => ?_)
    refine x_goto 2 C dX5_takeOutThrees_59 rfl ?_
    exact ih y53.1 y53.2 (v1 + (1 : Int32)) _ _ _ X (lv_sub hl [1, 0] rfl) hf
set_option maxHeartbeats 4000000 in
set_option maxRecDepth 100000 in
theorem c_X5_takeOutThrees (l : Launch) (D : va_G) (T : KT) (h0 : Nat) (N : Nat)  (m_a m_b : Int64) (x : Int32 × Int64 × Int64) (hf : f_X5_takeOutThrees N m_a m_b = some x) : kx_MI l yX5_takeOutThrees cX5_takeOutThrees 2 (some .int) 1 24 D T [.ref h0] (w_X5_ T h0 m_a m_b) (w_X5_ T h0 x.2.1 x.2.2) x.1 := by
  refine kx_ofMI RX5 rfl (plainFor_of_name (x := yX5_takeOutThrees) kpn_X5) rfl ?_
  intro E A H ls _ C X R hl
  have hl : lv_has ls 2 [(0, .ref h0)] := hl
  rw [f_X5_takeOutThrees] at hf
  refine x_iconst 1 C dX5_takeOutThrees_0 (0 : Int32) kv_iconst_0 rfl ?_
  refine x_istore_n 2 C dX5_takeOutThrees_1 [(1, .int (0 : Int32)), (0, .ref h0)] hl rfl rfl rfl (fun ls hl => ?_)
  exact w_X5_takeOutThrees_2 h0 C N x  R  N m_a m_b (0 : Int32) _ _ _ X (lv_sub hl [1, 0] rfl) hf
set_option maxHeartbeats 4000000 in
set_option maxRecDepth 100000 in
theorem c_J9_floorMod_f86c9 (l : Launch) (D : va_G) (T : KT)  (v0 v2 : Int64)  (x : Int64) (hf : f_J9_floorMod_f86c9 v0 v2 = some x) : kx_ML l yJ9_floorMod_f86c9 cJ9_floorMod_f86c9 6 (some .long) 0 0 D T [.long v0, .long v2] (w__ T  ) (w__ T  ) x := by
  refine kx_ofML RJ9 rfl (by decide +kernel) rfl ?_
  intro E A H ls _ C X R hl
  have hl : lv_has ls 6 [(0, .long v0), (2, .long v2)] := hl
  rw [f_J9_floorMod_f86c9] at hf
  refine x_lload_n 1 C dJ9_floorMod_f86c9_0 hl 0 rfl rfl ?_
  refine x_lload_n 2 C dJ9_floorMod_f86c9_1 hl 1 rfl rfl ?_
  refine x_lrem 3 C dJ9_floorMod_f86c9_2 hf rfl (fun hf => ?_)
  refine x_lstore 5 C dJ9_floorMod_f86c9_3 [(4, .long (v0 - v0 / v2 * v2)), (0, .long v0), (2, .long v2)] hl rfl rfl rfl (fun ls hl => ?_)
  refine x_lload_n 6 C dJ9_floorMod_f86c9_5 hl 1 rfl rfl ?_
  refine x_lload_n 7 C dJ9_floorMod_f86c9_6 hl 2 rfl rfl ?_
  refine x_lxor 8 C dJ9_floorMod_f86c9_7 rfl ?_
  refine x_lconst 9 C dJ9_floorMod_f86c9_8 (0 : Int64) kv_lconst_0 rfl ?_
  refine x_lcmp_ge 25 10 13 C dJ9_floorMod_f86c9_9 dJ9_floorMod_f86c9_10 rfl rfl rfl hf (fun hf => ?_) (fun hf => ?_)
  · refine x_lload 27 C dJ9_floorMod_f86c9_25 hl 0 rfl rfl ?_
    cases hf
    exact R _ _ _ _ X dJ9_floorMod_f86c9_27
  refine x_lload 15 C dJ9_floorMod_f86c9_13 hl 0 rfl rfl ?_
  refine x_lconst 16 C dJ9_floorMod_f86c9_15 (0 : Int64) kv_lconst_0 rfl ?_
  refine x_lcmp_eq 25 17 20 C dJ9_floorMod_f86c9_16 dJ9_floorMod_f86c9_17 rfl rfl rfl hf (fun hf => ?_) (fun hf => ?_)
  · refine x_lload 27 C dJ9_floorMod_f86c9_25 hl 0 rfl rfl ?_
    cases hf
    exact R _ _ _ _ X dJ9_floorMod_f86c9_27
  refine x_lload 22 C dJ9_floorMod_f86c9_20 hl 0 rfl rfl ?_
  refine x_lload_n 23 C dJ9_floorMod_f86c9_22 hl 2 rfl rfl ?_
  refine x_ladd 24 C dJ9_floorMod_f86c9_23 rfl ?_
  cases hf
  exact R _ _ _ _ X dJ9_floorMod_f86c9_24
set_option maxHeartbeats 4000000 in
set_option maxRecDepth 100000 in
theorem c_X5_isPrimary (l : Launch) (D : va_G) (T : KT) (h0 : Nat)  (m_a m_b : Int64) (x : Int32) (hf : f_X5_isPrimary m_a m_b = some x) : kx_MI l yX5_isPrimary cX5_isPrimary 1 (some .boolean) 1 25 D T [.ref h0] (w_X5_ T h0 m_a m_b) (w_X5_ T h0 m_a m_b) x := by
  refine kx_ofMZ RX5 rfl (plainFor_of_name (x := yX5_isPrimary) kpn_X5) rfl ?_
  intro E A H ls _ C X R hl
  have hl : lv_has ls 1 [(0, .ref h0)] := hl
  rw [f_X5_isPrimary] at hf
  refine x_aload_n 1 C dX5_isPrimary_0 hl 0 rfl rfl ?_
  refine x_get 4 C dX5_isPrimary_1 X kf_X5_9 0 rfl rfl rfl ?_
  refine x_ldc2_w 7 C dX5_isPrimary_4 (3 : Int64) kc_X5_26 rfl ?_
  obtain ⟨y7, h7, hf⟩ := kx_bind hf
  refine x_callSl 10 C dX5_isPrimary_7 X hl kl_X5_28 (c_J9_floorMod_f86c9 E.2.1 D T  m_a (3 : Int64)  y7 h7) [] rfl rfl rfl rfl rfl [] rfl rfl rfl (w_X5_ T h0 m_a m_b) rfl rfl (fun H locs X => ?_)
  refine x_ldc2_w 13 C dX5_isPrimary_10 (2 : Int64) kc_X5_34 rfl ?_
  refine x_lcmp_ne 34 14 17 C dX5_isPrimary_13 dX5_isPrimary_14 rfl rfl rfl hf (fun hf => ?_) (fun hf => ?_)
  · refine x_iconst 35 C dX5_isPrimary_34 (0 : Int32) kv_iconst_0 rfl ?_
    cases hf
    exact R _ _ _ _ X kb_0 dX5_isPrimary_35
  refine x_aload_n 18 C dX5_isPrimary_17 hl 0 rfl rfl ?_
  refine x_get 21 C dX5_isPrimary_18 X kf_X5_15 0 rfl rfl rfl ?_
  refine x_ldc2_w 24 C dX5_isPrimary_21 (3 : Int64) kc_X5_26 rfl ?_
  refine x_lrem0 25 C dX5_isPrimary_24 kz_l_3 rfl ?_
  refine x_lconst 26 C dX5_isPrimary_25 (0 : Int64) kv_lconst_0 rfl ?_
  refine x_lcmp_ne 34 27 30 C dX5_isPrimary_26 dX5_isPrimary_27 rfl rfl rfl hf (fun hf => ?_) (fun hf => ?_)
  · refine x_iconst 35 C dX5_isPrimary_34 (0 : Int32) kv_iconst_0 rfl ?_
    cases hf
    exact R _ _ _ _ X kb_0 dX5_isPrimary_35
  refine x_iconst 31 C dX5_isPrimary_30 (1 : Int32) kv_iconst_1 rfl ?_
  refine x_goto 35 C dX5_isPrimary_31 rfl ?_
  cases hf
  exact R _ _ _ _ X kb_1 dX5_isPrimary_35
