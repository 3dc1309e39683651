set_option maxHeartbeats 4000000 in
set_option maxRecDepth 100000 in
theorem c_X11_isWholePrime (l : Launch) (D : va_G) (T : KT)  (N : Nat) (v0 : Int32)  (x : Int32) (hf : f_X11_isWholePrime N v0 = some x) : kx_MI l yX11_isWholePrime cX11_isWholePrime 1 (some .boolean) 1 21 D T [.int v0] (w4_ T  ) (w4_ T  ) x := by
  refine kx_ofMZ RX11 rfl (plainFor_of_name (x := yX11_isWholePrime) kpn_X11) rfl ?_
  intro E A H ls _ C X R hl
  have hl : lv_has ls 1 [(0, .int v0)] := hl
  rw [f_X11_isWholePrime] at hf
  refine x_iload_n 1 C dX11_isWholePrime_0 hl 0 rfl rfl ?_
  refine x_iconst 2 C dX11_isWholePrime_1 (1 : Int32) kv_iconst_1 rfl ?_
  refine x_icmp_le 17 5 C dX11_isWholePrime_2 rfl rfl hf (fun hf => ?_) (fun hf => ?_)
  · refine x_iconst 18 C dX11_isWholePrime_17 (0 : Int32) kv_iconst_0 rfl ?_
    obtain rfl := Option.some.inj hf
    exact R _ _ _ _ X kb_0 dX11_isWholePrime_18
  refine x_iload_n 6 C dX11_isWholePrime_5 hl 0 rfl rfl ?_
  obtain ⟨y6, hy6, hf⟩ := kx_bind hf
  refine x_callSi0 9 C dX11_isWholePrime_6 X hl kl_X11_156 (c_X11_leastPart E.2.1 D T  N v0  y6 hy6) [] rfl rfl rfl rfl rfl rfl (fun H locs X => ?_)
  refine x_iload_n 10 C dX11_isWholePrime_9 hl 0 rfl rfl ?_
  refine x_icmp_ne 17 13 C dX11_isWholePrime_10 rfl rfl hf (fun hf => ?_) (fun hf => ?_)
  · refine x_iconst 18 C dX11_isWholePrime_17 (0 : Int32) kv_iconst_0 rfl ?_
    obtain rfl := Option.some.inj hf
    exact R _ _ _ _ X kb_0 dX11_isWholePrime_18
  refine x_iconst 14 C dX11_isWholePrime_13 (1 : Int32) kv_iconst_1 rfl ?_
  refine x_goto 18 C dX11_isWholePrime_14 rfl ?_
  obtain rfl := Option.some.inj hf
  exact R _ _ _ _ X kb_1 dX11_isWholePrime_18
set_option maxHeartbeats 4000000 in
set_option maxRecDepth 100000 in
theorem c_X11_isThird (l : Launch) (D : va_G) (T : KT)  (N : Nat) (v0 : Int32)  (x : Int32) (hf : f_X11_isThird N v0 = some x) : kx_MI l yX11_isThird cX11_isThird 1 (some .boolean) 2 41 D T [.int v0] (w4_ T  ) (w4_ T  ) x := by
  refine kx_ofMZ RX11 rfl (plainFor_of_name (x := yX11_isThird) kpn_X11) rfl ?_
  intro E A H ls _ C X R hl
  have hl : lv_has ls 1 [(0, .int v0)] := hl
  rw [f_X11_isThird] at hf
  refine x_iload_n 1 C dX11_isThird_0 hl 0 rfl rfl ?_
  refine x_i2l 2 C dX11_isThird_1 rfl ?_
  refine x_ldc2_w 5 C dX11_isThird_2 (7 : Int64) kc_X11_75 rfl ?_
  refine x_ldc2_w 8 C dX11_isThird_5 (997 : Int64) kc_X11_366 rfl ?_
  obtain ⟨y8, hy8, hf⟩ := kx_bind hf
  refine x_callSi0 11 C dX11_isThird_8 X hl kl_X11_77 (c_X11_in E.2.1 D T  (v0).toInt64 (7 : Int64) (997 : Int64)  y8 hy8) [] rfl rfl rfl rfl rfl rfl (fun H locs X => ?_)
  refine x_if_eq 32 14 C dX11_isThird_11 rfl rfl hf (fun hf => ?_) (fun hf => ?_)
  · refine x_iconst 33 C dX11_isThird_32 (0 : Int32) kv_iconst_0 rfl ?_
    obtain rfl := Option.some.inj hf
    exact R _ _ _ _ X kb_0 dX11_isThird_33
  refine x_iload_n 15 C dX11_isThird_14 hl 0 rfl rfl ?_
  refine x_iconst 16 C dX11_isThird_15 (3 : Int32) kv_iconst_3 rfl ?_
  refine x_irem0 17 C dX11_isThird_16 kz_i_3 rfl ?_
  refine x_iconst 18 C dX11_isThird_17 (1 : Int32) kv_iconst_1 rfl ?_
  refine x_icmp_ne 32 21 C dX11_isThird_18 rfl rfl hf (fun hf => ?_) (fun hf => ?_)
  · refine x_iconst 33 C dX11_isThird_32 (0 : Int32) kv_iconst_0 rfl ?_
    obtain rfl := Option.some.inj hf
    exact R _ _ _ _ X kb_0 dX11_isThird_33
  refine x_iload_n 22 C dX11_isThird_21 hl 0 rfl rfl ?_
  obtain ⟨y22, hy22, hf⟩ := kx_bind hf
  refine x_callSi0 25 C dX11_isThird_22 X hl kl_X11_368 (c_X11_isWholePrime E.2.1 D T  N v0  y22 hy22) [] rfl rfl rfl rfl rfl rfl (fun H locs X => ?_)
  refine x_if_eq 32 28 C dX11_isThird_25 rfl rfl hf (fun hf => ?_) (fun hf => ?_)
  · refine x_iconst 33 C dX11_isThird_32 (0 : Int32) kv_iconst_0 rfl ?_
    obtain rfl := Option.some.inj hf
    exact R _ _ _ _ X kb_0 dX11_isThird_33
  refine x_iconst 29 C dX11_isThird_28 (1 : Int32) kv_iconst_1 rfl ?_
  refine x_goto 33 C dX11_isThird_29 rfl ?_
  obtain rfl := Option.some.inj hf
  exact R _ _ _ _ X kb_1 dX11_isThird_33
set_option maxHeartbeats 4000000 in
set_option maxRecDepth 100000 in
theorem w_X11_powerBy_33 {E : KE} {A : Nat → Prop} {D : va_G} {T : KT}  (C : kx_C E cX11_powerBy 6 (some .int) RX11 0 0 D T) (N : Nat) (x : Int32)  (R : kx_RI E cX11_powerBy D A (w4_ T  ) x) (k10 : Int32 → Int32 → Int32 → Int32 → Option (Int32)) (hk10 : ∀  (v2 v3 v4 v5 : Int32) (H : Heap) (locs : List Loc) (ls : Array Slot), kx_H E D A H locs (w4_ T  ) → lv_has ls 6 [(2, .int v2), (3, .int v3), (4, .int v4), (5, .int v5)] → k10 v2 v3 v4 v5 = some x → kx_W E H locs 10 ls []) : ∀  (v2 v4 v5 s0 : Int32) (H : Heap) (locs : List Loc) (ls : Array Slot), kx_H E D A H locs (w4_ T  ) → lv_has ls 6 [(2, .int v2), (4, .int v4), (5, .int v5)] → f_X11_powerBy_33 N k10 v2 v4 v5 s0 = some x → kx_W E H locs 33 ls [.int s0] := by
  intro v2 v4 v5 s0 H locs ls X hl hf
  rw [f_X11_powerBy_33] at hf
  refine x_istore_n 34 C dX11_powerBy_33 [(3, .int s0), (2, .int v2), (4, .int v4), (5, .int v5)] hl rfl rfl rfl (fun ls hl => ?_)
  refine x_iload 36 C dX11_powerBy_34 hl 2 rfl rfl ?_
  refine x_iload 38 C dX11_powerBy_36 hl 2 rfl rfl ?_
  refine x_imul 39 C dX11_powerBy_38 rfl ?_
  refine x_iload_n 40 C dX11_powerBy_39 hl 1 rfl rfl ?_
  refine x_irem 41 C dX11_powerBy_40 hf rfl (fun hf => ?_)
  refine x_istore 43 C dX11_powerBy_41 [(4, .int ((v4 * v4) - (v4 * v4) / v2 * v2)), (3, .int s0), (2, .int v2), (5, .int v5)] hl rfl rfl rfl (fun ls hl => ?_)
  refine x_iload 45 C dX11_powerBy_43 hl 3 rfl rfl ?_
  refine x_iconst 46 C dX11_powerBy_45 (2 : Int32) kv_iconst_2 rfl ?_
  refine x_idiv0 47 C dX11_powerBy_46 kz_i_2 rfl ?_
  refine x_istore 49 C dX11_powerBy_47 [(5, .int (v5 / (2 : Int32))), (4, .int ((v4 * v4) - (v4 * v4) / v2 * v2)), (3, .int s0), (2, .int v2)] hl rfl rfl rfl (fun ls hl => ?_)
  refine x_goto 10 C dX11_powerBy_49 rfl ?_
  exact hk10 v2 s0 ((v4 * v4) - (v4 * v4) / v2 * v2) (v5 / (2 : Int32)) _ _ _ X (lv_sub hl [3, 2, 1, 0] rfl) hf
set_option maxHeartbeats 4000000 in
set_option maxRecDepth 100000 in
theorem w_X11_powerBy_10 {E : KE} {A : Nat → Prop} {D : va_G} {T : KT}  (C : kx_C E cX11_powerBy 6 (some .int) RX11 0 0 D T) (N : Nat) (x : Int32)  (R : kx_RI E cX11_powerBy D A (w4_ T  ) x) : ∀ (k : Nat), ∀  (v2 v3 v4 v5 : Int32) (H : Heap) (locs : List Loc) (ls : Array Slot), kx_H E D A H locs (w4_ T  ) → lv_has ls 6 [(2, .int v2), (3, .int v3), (4, .int v4), (5, .int v5)] → f_X11_powerBy_10 N k v2 v3 v4 v5 = some x → kx_W E H locs 10 ls [] := by
  intro k
  induction k with
  | zero =>
    intro v2 v3 v4 v5 H locs ls X hl hf
    cases (show (none : Option (Int32)) = some x from hf)
  | succ k ih =>
    intro v2 v3 v4 v5 H locs ls X hl hf
    rw [f_X11_powerBy_10] at hf
    refine x_iload 12 C dX11_powerBy_10 hl 3 rfl rfl ?_
    refine x_if_le 52 15 C dX11_powerBy_12 rfl rfl hf (fun hf => ?_) (fun hf => ?_)
    · refine x_iload_n 53 C dX11_powerBy_52 hl 1 rfl rfl ?_
      obtain rfl := Option.some.inj hf
      exact R _ _ _ _ X dX11_powerBy_53
    refine x_iload 17 C dX11_powerBy_15 hl 3 rfl rfl ?_
    refine x_iconst 18 C dX11_powerBy_17 (2 : Int32) kv_iconst_2 rfl ?_
    refine x_irem0 19 C dX11_powerBy_18 kz_i_2 rfl ?_
    refine x_iconst 20 C dX11_powerBy_19 (1 : Int32) kv_iconst_1 rfl ?_
    refine x_icmp_ne 32 23 C dX11_powerBy_20 rfl rfl hf (fun hf => ?_) (fun hf => ?_)
    · refine x_iload_n 33 C dX11_powerBy_32 hl 1 rfl rfl ?_
      exact w_X11_powerBy_33  C N x  R (f_X11_powerBy_10 N k) ih v2 v4 v5 v3 _ _ _ X (lv_sub hl [0, 2, 3] rfl) hf
    refine x_iload_n 24 C dX11_powerBy_23 hl 1 rfl rfl ?_
    refine x_iload 26 C dX11_powerBy_24 hl 2 rfl rfl ?_
    refine x_imul 27 C dX11_powerBy_26 rfl ?_
    refine x_iload_n 28 C dX11_powerBy_27 hl 0 rfl rfl ?_
    refine x_irem 29 C dX11_powerBy_28 hf rfl (fun hf => ?_)
    refine x_goto 33 C dX11_powerBy_29 rfl ?_
    exact w_X11_powerBy_33  C N x  R (f_X11_powerBy_10 N k) ih v2 v4 v5 ((v3 * v4) - (v3 * v4) / v2 * v2) _ _ _ X (lv_sub hl [0, 2, 3] rfl) hf
set_option maxHeartbeats 4000000 in
set_option maxRecDepth 100000 in
theorem c_X11_powerBy (l : Launch) (D : va_G) (T : KT)  (N : Nat) (v0 v1 v2 : Int32)  (x : Int32) (hf : f_X11_powerBy N v0 v1 v2 = some x) : kx_MI l yX11_powerBy cX11_powerBy 6 (some .int) 0 0 D T [.int v0, .int v1, .int v2] (w4_ T  ) (w4_ T  ) x := by
  refine kx_ofMI RX11 rfl (plainFor_of_name (x := yX11_powerBy) kpn_X11) rfl ?_
  intro E A H ls _ C X R hl
  have hl : lv_has ls 6 [(0, .int v0), (1, .int v1), (2, .int v2)] := hl
  rw [f_X11_powerBy] at hf
  refine x_iconst 1 C dX11_powerBy_0 (1 : Int32) kv_iconst_1 rfl ?_
  refine x_istore_n 2 C dX11_powerBy_1 [(3, .int (1 : Int32)), (0, .int v0), (1, .int v1), (2, .int v2)] hl rfl rfl rfl (fun ls hl => ?_)
  refine x_iload_n 3 C dX11_powerBy_2 hl 1 rfl rfl ?_
  refine x_iload_n 4 C dX11_powerBy_3 hl 3 rfl rfl ?_
  refine x_irem 5 C dX11_powerBy_4 hf rfl (fun hf => ?_)
  refine x_istore 7 C dX11_powerBy_5 [(4, .int (v0 - v0 / v2 * v2)), (3, .int (1 : Int32)), (0, .int v0), (1, .int v1), (2, .int v2)] hl rfl rfl rfl (fun ls hl => ?_)
  refine x_iload_n 8 C dX11_powerBy_7 hl 3 rfl rfl ?_
  refine x_istore 10 C dX11_powerBy_8 [(5, .int v1), (4, .int (v0 - v0 / v2 * v2)), (3, .int (1 : Int32)), (0, .int v0), (1, .int v1), (2, .int v2)] hl rfl rfl rfl (fun ls hl => ?_)
  exact w_X11_powerBy_10  C N x  R  N v2 (1 : Int32) (v0 - v0 / v2 * v2) v1 _ _ _ X (lv_sub hl [5, 2, 1, 0] rfl) hf
set_option maxHeartbeats 4000000 in
set_option maxRecDepth 100000 in
theorem c_X11_isCube (l : Launch) (D : va_G) (T : KT)  (N : Nat) (v0 v1 : Int32)  (x : Int32) (hf : f_X11_isCube N v0 v1 = some x) : kx_MI l yX11_isCube cX11_isCube 2 (some .boolean) 1 25 D T [.int v0, .int v1] (w4_ T  ) (w4_ T  ) x := by
  refine kx_ofMZ RX11 rfl (plainFor_of_name (x := yX11_isCube) kpn_X11) rfl ?_
  intro E A H ls _ C X R hl
  have hl : lv_has ls 2 [(0, .int v0), (1, .int v1)] := hl
  rw [f_X11_isCube] at hf
  refine x_iload_n 1 C dX11_isCube_0 hl 0 rfl rfl ?_
  refine x_iload_n 2 C dX11_isCube_1 hl 1 rfl rfl ?_
  refine x_irem 3 C dX11_isCube_2 hf rfl (fun hf => ?_)
  refine x_if_eq 24 6 C dX11_isCube_3 rfl rfl hf (fun hf => ?_) (fun hf => ?_)
  · refine x_iconst 25 C dX11_isCube_24 (0 : Int32) kv_iconst_0 rfl ?_
    obtain rfl := Option.some.inj hf
    exact R _ _ _ _ X kb_0 dX11_isCube_25
  refine x_iload_n 7 C dX11_isCube_6 hl 0 rfl rfl ?_
  refine x_iload_n 8 C dX11_isCube_7 hl 1 rfl rfl ?_
  refine x_iconst 9 C dX11_isCube_8 (1 : Int32) kv_iconst_1 rfl ?_
  refine x_isub 10 C dX11_isCube_9 rfl ?_
  refine x_iconst 11 C dX11_isCube_10 (3 : Int32) kv_iconst_3 rfl ?_
  refine x_idiv0 12 C dX11_isCube_11 kz_i_3 rfl ?_
  refine x_iload_n 13 C dX11_isCube_12 hl 1 rfl rfl ?_
  obtain ⟨y13, hy13, hf⟩ := kx_bind hf
  refine x_callSi0 16 C dX11_isCube_13 X hl kl_X11_371 (c_X11_powerBy E.2.1 D T  N v0 ((v1 - (1 : Int32)) / (3 : Int32)) v1  y13 hy13) [] rfl rfl rfl rfl rfl rfl (fun H locs X => ?_)
  refine x_iconst 17 C dX11_isCube_16 (1 : Int32) kv_iconst_1 rfl ?_
  refine x_icmp_ne 24 20 C dX11_isCube_17 rfl rfl hf (fun hf => ?_) (fun hf => ?_)
  · refine x_iconst 25 C dX11_isCube_24 (0 : Int32) kv_iconst_0 rfl ?_
    obtain rfl := Option.some.inj hf
    exact R _ _ _ _ X kb_0 dX11_isCube_25
  refine x_iconst 21 C dX11_isCube_20 (1 : Int32) kv_iconst_1 rfl ?_
  refine x_goto 25 C dX11_isCube_21 rfl ?_
  obtain rfl := Option.some.inj hf
  exact R _ _ _ _ X kb_1 dX11_isCube_25
set_option maxHeartbeats 4000000 in
set_option maxRecDepth 100000 in
theorem w_X11_leastCube_2 {E : KE} {A : Nat → Prop} {D : va_G} {T : KT}  (C : kx_C E cX11_leastCube 3 (some .int) RX11 2 46 D T) (N : Nat) (x : Int32)  (R : kx_RI E cX11_leastCube D A (w4_ T  ) x) : ∀ (k : Nat), ∀  (v0 v1 v2 : Int32) (H : Heap) (locs : List Loc) (ls : Array Slot), kx_H E D A H locs (w4_ T  ) → lv_has ls 3 [(0, .int v0), (1, .int v1), (2, .int v2)] → f_X11_leastCube_2 N k v0 v1 v2 = some x → kx_W E H locs 2 ls [] := by
  intro k
  induction k with
  | zero =>
    intro v0 v1 v2 H locs ls X hl hf
    cases (show (none : Option (Int32)) = some x from hf)
  | succ k ih =>
    intro v0 v1 v2 H locs ls X hl hf
    rw [f_X11_leastCube_2] at hf
    refine x_iload_n 3 C dX11_leastCube_2 hl 2 rfl rfl ?_
    refine x_iload_n 4 C dX11_leastCube_3 hl 0 rfl rfl ?_
    obtain ⟨y4, hy4, hf⟩ := kx_bind hf
    refine x_callSi0 7 C dX11_leastCube_4 X hl kl_X11_375 (c_X11_isCube E.2.1 D T  N v2 v0  y4 hy4) [] rfl rfl rfl rfl rfl rfl (fun H locs X => ?_)
    refine x_iload_n 8 C dX11_leastCube_7 hl 1 rfl rfl ?_
    refine x_icmp_eq 18 11 C dX11_leastCube_8 rfl rfl hf (fun hf => ?_) (fun hf => ?_)
    · refine x_iload_n 19 C dX11_leastCube_18 hl 2 rfl rfl ?_
      obtain rfl := Option.some.inj hf
      exact R _ _ _ _ X dX11_leastCube_19
    refine x_iload_n 12 C dX11_leastCube_11 hl 2 rfl rfl ?_
    refine x_iconst 13 C dX11_leastCube_12 (1 : Int32) kv_iconst_1 rfl ?_
    refine x_iadd 14 C dX11_leastCube_13 rfl ?_
    refine x_istore_n 15 C dX11_leastCube_14 [(2, .int (v2 + (1 : Int32))), (0, .int v0), (1, .int v1)] hl rfl rfl rfl (fun ls hl => ?_)
    refine x_goto 2 C dX11_leastCube_15 rfl ?_
    exact ih v0 v1 (v2 + (1 : Int32)) _ _ _ X (lv_sub hl [1, 2, 0] rfl) hf
set_option maxHeartbeats 4000000 in
set_option maxRecDepth 100000 in
theorem c_X11_leastCube (l : Launch) (D : va_G) (T : KT)  (N : Nat) (v0 v1 : Int32)  (x : Int32) (hf : f_X11_leastCube N v0 v1 = some x) : kx_MI l yX11_leastCube cX11_leastCube 3 (some .int) 2 46 D T [.int v0, .int v1] (w4_ T  ) (w4_ T  ) x := by
  refine kx_ofMI RX11 rfl (plainFor_of_name (x := yX11_leastCube) kpn_X11) rfl ?_
  intro E A H ls _ C X R hl
  have hl : lv_has ls 3 [(0, .int v0), (1, .int v1)] := hl
  rw [f_X11_leastCube] at hf
  refine x_iconst 1 C dX11_leastCube_0 (2 : Int32) kv_iconst_2 rfl ?_
  refine x_istore_n 2 C dX11_leastCube_1 [(2, .int (2 : Int32)), (0, .int v0), (1, .int v1)] hl rfl rfl rfl (fun ls hl => ?_)
  exact w_X11_leastCube_2  C N x  R  N v0 v1 (2 : Int32) _ _ _ X (lv_sub hl [1, 2, 0] rfl) hf
set_option maxHeartbeats 4000000 in
set_option maxRecDepth 100000 in
theorem c_X11_prime (l : Launch) (D : va_G) (T : KT) (h : Nat → Nat) (N : Nat) (v1 v2 : Int32) (m_taped m_states : Int32) (m_ra m_rb : Int64) (m_threes m_primes m_ones m_unit : Int32) (m_allParts m_allNorms m_allClasses : Int64) (m_odd : Int32) (m_boxWide m_boxHigh m_boxStep : Int64) (m_partingMany : Int32) (m_qa m_qb m_la m_lb m_sa m_sb m_ta m_tb : Int64) (m_listed m_tells m_wanted m_found : Int32) (m_bits : Int64) (m_power2 m_rings m_ringA m_ringB m_seedNow : Int32) (m_tape m_has m_keptHas m_first m_second m_keptFirst m_keptSecond m_pa m_pb m_pNorm m_cubed m_isOpen m_signs m_often m_la0 m_lb0 : Nat → Int32) (x : Int32 × Int64 × Int64) (hf : f_X11_prime N v1 v2 m_ra m_rb = some x) : kx_MI l yX11_prime cX11_prime 3 (some .int) 3 72 D T [.ref (h 0), .int v1, .int v2] (wM T h m_taped m_states m_ra m_rb m_threes m_primes m_ones m_unit m_allParts m_allNorms m_allClasses m_odd m_boxWide m_boxHigh m_boxStep m_partingMany m_qa m_qb m_la m_lb m_sa m_sb m_ta m_tb m_listed m_tells m_wanted m_found m_bits m_power2 m_rings m_ringA m_ringB m_seedNow m_tape m_has m_keptHas m_first m_second m_keptFirst m_keptSecond m_pa m_pb m_pNorm m_cubed m_isOpen m_signs m_often m_la0 m_lb0) (wM T h m_taped m_states x.2.1 x.2.2 m_threes m_primes m_ones m_unit m_allParts m_allNorms m_allClasses m_odd m_boxWide m_boxHigh m_boxStep m_partingMany m_qa m_qb m_la m_lb m_sa m_sb m_ta m_tb m_listed m_tells m_wanted m_found m_bits m_power2 m_rings m_ringA m_ringB m_seedNow m_tape m_has m_keptHas m_first m_second m_keptFirst m_keptSecond m_pa m_pb m_pNorm m_cubed m_isOpen m_signs m_often m_la0 m_lb0) x.1 := by
  refine kx_ofMI RX11 rfl (plainFor_of_name (x := yX11_prime) kpn_X11) rfl ?_
  intro E A H ls _ C X R hl
  have hl : lv_has ls 3 [(0, .ref (h 0)), (1, .int v1), (2, .int v2)] := hl
  rw [f_X11_prime] at hf
  refine x_iload_n 1 C dX11_prime_0 hl 1 rfl rfl ?_
  obtain ⟨y1, hy1, hf⟩ := kx_bind hf
  refine x_callSi 4 C dX11_prime_1 X hl kl_X11_378 (c_X11_isThird E.2.1 D T  N v1  y1 hy1) [] rfl rfl rfl rfl rfl cb_7 rfl (fun H locs X => ?_)
  refine x_if_eq 19 7 C dX11_prime_4 rfl rfl hf (fun hf => ?_) (fun hf => ?_)
  · refine x_ldc 21 C dX11_prime_19 (-2147483648 : Int32) kc_X11_164 rfl ?_
    obtain rfl := Option.some.inj hf
    exact R _ _ _ _ X dX11_prime_21
  refine x_iload_n 8 C dX11_prime_7 hl 2 rfl rfl ?_
  refine x_i2l 9 C dX11_prime_8 rfl ?_
  refine x_lconst 10 C dX11_prime_9 (0 : Int64) kv_lconst_0 rfl ?_
  refine x_ldc2_w 13 C dX11_prime_10 (7 : Int64) kc_X11_75 rfl ?_
  obtain ⟨y13, hy13, hf⟩ := kx_bind hf
  refine x_callSi 16 C dX11_prime_13 X hl kl_X11_77 (c_X11_in E.2.1 D T  (v2).toInt64 (0 : Int64) (7 : Int64)  y13 hy13) [] rfl rfl rfl rfl rfl cb_7 rfl (fun H locs X => ?_)
  refine x_if_ne 22 19 C dX11_prime_16 rfl rfl hf (fun hf => ?_) (fun hf => ?_)
  · refine x_aload_n 23 C dX11_prime_22 hl 0 rfl rfl ?_
    refine x_iload_n 24 C dX11_prime_23 hl 1 rfl rfl ?_
    obtain ⟨y24, hy24, hf⟩ := kx_bind hf
    refine x_callVv0 27 C dX11_prime_24 X hl kl_X11_211 (c_X11_splits E.2.1 D T h N v1 m_taped m_states m_ra m_rb m_threes m_primes m_ones m_unit m_allParts m_allNorms m_allClasses m_odd m_boxWide m_boxHigh m_boxStep m_partingMany m_qa m_qb m_la m_lb m_sa m_sb m_ta m_tb m_listed m_tells m_wanted m_found m_bits m_power2 m_rings m_ringA m_ringB m_seedNow m_tape m_has m_keptHas m_first m_second m_keptFirst m_keptSecond m_pa m_pb m_pNorm m_cubed m_isOpen m_signs m_often m_la0 m_lb0 y24 hy24) rfl rfl [] rfl rfl rfl rfl rfl rfl (fun H locs X => ?_)
    refine x_iload_n 28 C dX11_prime_27 hl 2 rfl rfl ?_
    refine kx_sw hf (fun hs0 hf => ?_) (fun hs0 hf => ?_)
    · refine x_table (off := 40) 68 C dX11_prime_28 (0 : Int32) hs0 (by decide) (by decide) (by decide) rfl ?_
      refine x_aload_n 69 C dX11_prime_68 hl 0 rfl rfl ?_
      refine x_get 72 C dX11_prime_69 X kf_X11_105 0 rfl rfl rfl ?_
      refine x_l2i 73 C dX11_prime_72 rfl ?_
      obtain rfl := Option.some.inj hf
      exact R _ _ _ _ X dX11_prime_73
    refine kx_sw hf (fun hs1 hf => ?_) (fun hs1 hf => ?_)
    · refine x_table (off := 46) 74 C dX11_prime_28 (1 : Int32) hs1 (by decide) (by decide) (by decide) rfl ?_
      refine x_aload_n 75 C dX11_prime_74 hl 0 rfl rfl ?_
      refine x_get 78 C dX11_prime_75 X kf_X11_109 0 rfl rfl rfl ?_
      refine x_l2i 79 C dX11_prime_78 rfl ?_
      obtain rfl := Option.some.inj hf
      exact R _ _ _ _ X dX11_prime_79
    refine kx_sw hf (fun hs2 hf => ?_) (fun hs2 hf => ?_)
    · refine x_table (off := 52) 80 C dX11_prime_28 (2 : Int32) hs2 (by decide) (by decide) (by decide) rfl ?_
      refine x_ldc2_w 83 C dX11_prime_80 (2 : Int64) kc_X11_119 rfl ?_
      refine x_aload_n 84 C dX11_prime_83 hl 0 rfl rfl ?_
      refine x_get 87 C dX11_prime_84 X kf_X11_105 0 rfl rfl rfl ?_
      refine x_lmul 88 C dX11_prime_87 rfl ?_
      refine x_aload_n 89 C dX11_prime_88 hl 0 rfl rfl ?_
      refine x_get 92 C dX11_prime_89 X kf_X11_109 0 rfl rfl rfl ?_
      refine x_lsub 93 C dX11_prime_92 rfl ?_
      refine x_l2i 94 C dX11_prime_93 rfl ?_
      obtain rfl := Option.some.inj hf
      exact R _ _ _ _ X dX11_prime_94
    refine kx_sw hf (fun hs3 hf => ?_) (fun hs3 hf => ?_)
    · refine x_table (off := 67) 95 C dX11_prime_28 (3 : Int32) hs3 (by decide) (by decide) (by decide) rfl ?_
      refine x_aload_n 96 C dX11_prime_95 hl 0 rfl rfl ?_
      refine x_get 99 C dX11_prime_96 X kf_X11_109 0 rfl rfl rfl ?_
      refine x_l2i 100 C dX11_prime_99 rfl ?_
      refine x_iconst 101 C dX11_prime_100 (3 : Int32) kv_iconst_3 rfl ?_
      refine x_idiv0 102 C dX11_prime_101 kz_i_3 rfl ?_
      obtain rfl := Option.some.inj hf
      exact R _ _ _ _ X dX11_prime_102
    refine kx_sw hf (fun hs4 hf => ?_) (fun hs4 hf => ?_)
    · refine x_table (off := 75) 103 C dX11_prime_28 (4 : Int32) hs4 (by decide) (by decide) (by decide) rfl ?_
      refine x_iconst 104 C dX11_prime_103 (2 : Int32) kv_iconst_2 rfl ?_
      refine x_iload_n 105 C dX11_prime_104 hl 1 rfl rfl ?_
      obtain ⟨y105, hy105, hf⟩ := kx_bind hf
      refine x_callSi 108 C dX11_prime_105 X hl kl_X11_375 (c_X11_isCube E.2.1 D T  N (2 : Int32) v1  y105 hy105) [] rfl rfl rfl rfl rfl cb_7 rfl (fun H locs X => ?_)
      refine x_if_eq 115 111 C dX11_prime_108 rfl rfl hf (fun hf => ?_) (fun hf => ?_)
      · refine x_iconst 116 C dX11_prime_115 (0 : Int32) kv_iconst_0 rfl ?_
        obtain rfl := Option.some.inj hf
        exact R _ _ _ _ X dX11_prime_116
      refine x_iconst 112 C dX11_prime_111 (1 : Int32) kv_iconst_1 rfl ?_
      refine x_goto 116 C dX11_prime_112 rfl ?_
      obtain rfl := Option.some.inj hf
      exact R _ _ _ _ X dX11_prime_116
    refine kx_sw hf (fun hs5 hf => ?_) (fun hs5 hf => ?_)
    · refine x_table (off := 89) 117 C dX11_prime_28 (5 : Int32) hs5 (by decide) (by decide) (by decide) rfl ?_
      refine x_iconst 118 C dX11_prime_117 (3 : Int32) kv_iconst_3 rfl ?_
      refine x_iload_n 119 C dX11_prime_118 hl 1 rfl rfl ?_
      obtain ⟨y119, hy119, hf⟩ := kx_bind hf
      refine x_callSi 122 C dX11_prime_119 X hl kl_X11_375 (c_X11_isCube E.2.1 D T  N (3 : Int32) v1  y119 hy119) [] rfl rfl rfl rfl rfl cb_7 rfl (fun H locs X => ?_)
      refine x_if_eq 129 125 C dX11_prime_122 rfl rfl hf (fun hf => ?_) (fun hf => ?_)
      · refine x_iconst 130 C dX11_prime_129 (0 : Int32) kv_iconst_0 rfl ?_
        obtain rfl := Option.some.inj hf
        exact R _ _ _ _ X dX11_prime_130
      refine x_iconst 126 C dX11_prime_125 (1 : Int32) kv_iconst_1 rfl ?_
      refine x_goto 130 C dX11_prime_126 rfl ?_
      obtain rfl := Option.some.inj hf
      exact R _ _ _ _ X dX11_prime_130
    refine x_tableOut 131 C dX11_prime_28 (by have hn0 := lv_neT (a := 0) hs0 (by decide); have hn1 := lv_neT (a := 1) hs1 (by decide); have hn2 := lv_neT (a := 2) hs2 (by decide); have hn3 := lv_neT (a := 3) hs3 (by decide); have hn4 := lv_neT (a := 4) hs4 (by decide); have hn5 := lv_neT (a := 5) hs5 (by decide); omega) rfl ?_
    refine x_iload_n 132 C dX11_prime_131 hl 1 rfl rfl ?_
    refine x_iload_n 133 C dX11_prime_132 hl 2 rfl rfl ?_
    refine x_bipush 135 C dX11_prime_133 (6 : Int32) kv_bipush_6 rfl ?_
    refine x_icmp_ne 142 138 C dX11_prime_135 rfl rfl hf (fun hf => ?_) (fun hf => ?_)
    · refine x_iconst 143 C dX11_prime_142 (0 : Int32) kv_iconst_0 rfl ?_
      obtain ⟨y143, hy143, hf⟩ := kx_bind hf
      refine x_callSi 146 C dX11_prime_143 X hl kl_X11_381 (c_X11_leastCube E.2.1 D T  N v1 (0 : Int32)  y143 hy143) [] rfl rfl rfl rfl rfl cb_7 rfl (fun H locs X => ?_)
      obtain rfl := Option.some.inj hf
      exact R _ _ _ _ X dX11_prime_146
    refine x_iconst 139 C dX11_prime_138 (1 : Int32) kv_iconst_1 rfl ?_
    refine x_goto 143 C dX11_prime_139 rfl ?_
    obtain ⟨y143, hy143, hf⟩ := kx_bind hf
    refine x_callSi 146 C dX11_prime_143 X hl kl_X11_381 (c_X11_leastCube E.2.1 D T  N v1 (1 : Int32)  y143 hy143) [] rfl rfl rfl rfl rfl cb_7 rfl (fun H locs X => ?_)
    obtain rfl := Option.some.inj hf
    exact R _ _ _ _ X dX11_prime_146
  refine x_ldc 21 C dX11_prime_19 (-2147483648 : Int32) kc_X11_164 rfl ?_
  obtain rfl := Option.some.inj hf
  exact R _ _ _ _ X dX11_prime_21
set_option maxHeartbeats 4000000 in
set_option maxRecDepth 100000 in
theorem c_X10_signByPrime_p1_one_p2_two (l : Launch) (D : va_G) (T : KT) (h : Nat → Nat) (N : Nat)  (m_drawers_full m_drawers_kept : Int32) (m_drawers_partA m_drawers_partB m_drawers_keptA m_drawers_keptB m_drawers_keptFull : Nat → Int32) (m_tape_size m_tape_plain m_tape_omegas m_tape_end m_tape_place m_tape_plainTold m_tape_omegasTold : Int32) (m_tape_bytes : Nat → Int32) (m_euclid_count : Int32) (m_euclid_last_a m_euclid_last_b m_euclid_lastOfFirst_a m_euclid_lastOfFirst_b m_euclid_lastOfSecond_a m_euclid_lastOfSecond_b m_euclid_next_a m_euclid_next_b m_euclid_nextOfFirst_a m_euclid_nextOfFirst_b m_euclid_nextOfSecond_a m_euclid_nextOfSecond_b m_euclid_q_a m_euclid_q_b : Int64) (m_euclid_quotientA m_euclid_quotientB : Nat → Int64) (m_modulus_step m_modulus_width m_modulus_slant m_modulus_square_a m_modulus_square_b : Int64) (m_factors_count m_factors_threes m_factors_unit : Int32) (m_factors_primeA m_factors_primeB m_factors_norms : Nat → Int64) (m_factors_euclid_count : Int32) (m_factors_euclid_last_a m_factors_euclid_last_b m_factors_euclid_lastOfFirst_a m_factors_euclid_lastOfFirst_b m_factors_euclid_lastOfSecond_a m_factors_euclid_lastOfSecond_b m_factors_euclid_next_a m_factors_euclid_next_b m_factors_euclid_nextOfFirst_a m_factors_euclid_nextOfFirst_b m_factors_euclid_nextOfSecond_a m_factors_euclid_nextOfSecond_b m_factors_euclid_q_a m_factors_euclid_q_b : Int64) (m_factors_euclid_quotientA m_factors_euclid_quotientB : Nat → Int64) (m_factors_left_a m_factors_left_b m_factors_found_a m_factors_found_b m_factors_product_a m_factors_product_b : Int64) (m_primes_count : Int32) (m_primes_primeA m_primes_primeB : Nat → Int32) (m_primes_found_a m_primes_found_b : Int64) (m_rings_foundA m_rings_foundB m_rings_all m_rings_mostOfOneRow m_letters_count : Int32) (m_letters_bytes : Nat → Int32) (m_one_a m_one_b m_two_a m_two_b m_three_a m_three_b m_four_a m_four_b m_out_a m_out_b m_spare_a m_spare_b : Int64) (m_marks : Nat → Int32) (x : Int32 × Int64 × Int64 × Int64 × Int64 × Int64 × Int64 × Int64 × Int64 × Int64) (hf : f_X10_signByPrime N m_modulus_step m_modulus_width m_modulus_slant m_four_a m_four_b m_one_a m_one_b m_two_a m_two_b = some x) : kx_MI l yX10_signByPrime cX10_signByPrime 3 (some .int) 3 92 D T [.ref (h 0), .ref (h 45), .ref (h 46)] (wC T h m_drawers_full m_drawers_kept m_drawers_partA m_drawers_partB m_drawers_keptA m_drawers_keptB m_drawers_keptFull m_tape_size m_tape_plain m_tape_omegas m_tape_end m_tape_place m_tape_plainTold m_tape_omegasTold m_tape_bytes m_euclid_count m_euclid_last_a m_euclid_last_b m_euclid_lastOfFirst_a m_euclid_lastOfFirst_b m_euclid_lastOfSecond_a m_euclid_lastOfSecond_b m_euclid_next_a m_euclid_next_b m_euclid_nextOfFirst_a m_euclid_nextOfFirst_b m_euclid_nextOfSecond_a m_euclid_nextOfSecond_b m_euclid_q_a m_euclid_q_b m_euclid_quotientA m_euclid_quotientB m_modulus_step m_modulus_width m_modulus_slant m_modulus_square_a m_modulus_square_b m_factors_count m_factors_threes m_factors_unit m_factors_primeA m_factors_primeB m_factors_norms m_factors_euclid_count m_factors_euclid_last_a m_factors_euclid_last_b m_factors_euclid_lastOfFirst_a m_factors_euclid_lastOfFirst_b m_factors_euclid_lastOfSecond_a m_factors_euclid_lastOfSecond_b m_factors_euclid_next_a m_factors_euclid_next_b m_factors_euclid_nextOfFirst_a m_factors_euclid_nextOfFirst_b m_factors_euclid_nextOfSecond_a m_factors_euclid_nextOfSecond_b m_factors_euclid_q_a m_factors_euclid_q_b m_factors_euclid_quotientA m_factors_euclid_quotientB m_factors_left_a m_factors_left_b m_factors_found_a m_factors_found_b m_factors_product_a m_factors_product_b m_primes_count m_primes_primeA m_primes_primeB m_primes_found_a m_primes_found_b m_rings_foundA m_rings_foundB m_rings_all m_rings_mostOfOneRow m_letters_count m_letters_bytes m_one_a m_one_b m_two_a m_two_b m_three_a m_three_b m_four_a m_four_b m_out_a m_out_b m_spare_a m_spare_b m_marks) (wC T h m_drawers_full m_drawers_kept m_drawers_partA m_drawers_partB m_drawers_keptA m_drawers_keptB m_drawers_keptFull m_tape_size m_tape_plain m_tape_omegas m_tape_end m_tape_place m_tape_plainTold m_tape_omegasTold m_tape_bytes m_euclid_count m_euclid_last_a m_euclid_last_b m_euclid_lastOfFirst_a m_euclid_lastOfFirst_b m_euclid_lastOfSecond_a m_euclid_lastOfSecond_b m_euclid_next_a m_euclid_next_b m_euclid_nextOfFirst_a m_euclid_nextOfFirst_b m_euclid_nextOfSecond_a m_euclid_nextOfSecond_b m_euclid_q_a m_euclid_q_b m_euclid_quotientA m_euclid_quotientB x.2.1 x.2.2.1 x.2.2.2.1 x.2.2.2.2.1 x.2.2.2.2.2.1 m_factors_count m_factors_threes m_factors_unit m_factors_primeA m_factors_primeB m_factors_norms m_factors_euclid_count m_factors_euclid_last_a m_factors_euclid_last_b m_factors_euclid_lastOfFirst_a m_factors_euclid_lastOfFirst_b m_factors_euclid_lastOfSecond_a m_factors_euclid_lastOfSecond_b m_factors_euclid_next_a m_factors_euclid_next_b m_factors_euclid_nextOfFirst_a m_factors_euclid_nextOfFirst_b m_factors_euclid_nextOfSecond_a m_factors_euclid_nextOfSecond_b m_factors_euclid_q_a m_factors_euclid_q_b m_factors_euclid_quotientA m_factors_euclid_quotientB m_factors_left_a m_factors_left_b m_factors_found_a m_factors_found_b m_factors_product_a m_factors_product_b m_primes_count m_primes_primeA m_primes_primeB m_primes_found_a m_primes_found_b m_rings_foundA m_rings_foundB m_rings_all m_rings_mostOfOneRow m_letters_count m_letters_bytes m_one_a m_one_b m_two_a m_two_b m_three_a m_three_b x.2.2.2.2.2.2.1 x.2.2.2.2.2.2.2.1 x.2.2.2.2.2.2.2.2.1 x.2.2.2.2.2.2.2.2.2 m_spare_a m_spare_b m_marks) x.1 := by
  refine kx_ofMI RX10 rfl (plainFor_of_name (x := yX10_signByPrime) kpn_X10) rfl ?_
  intro E A H ls _ C X R hl
  have hl : lv_has ls 3 [(0, .ref (h 0)), (1, .ref (h 45)), (2, .ref (h 46))] := hl
  rw [f_X10_signByPrime] at hf
  refine x_aload_n 1 C dX10_signByPrime_0 hl 0 rfl rfl ?_
  refine x_get 4 C dX10_signByPrime_1 X kf_X10_35 0 rfl rfl rfl ?_
  refine x_aload_n 5 C dX10_signByPrime_4 hl 2 rfl rfl ?_
  obtain ⟨y5, hy5, hf⟩ := kx_bind hf
  refine x_callVi 8 C dX10_signByPrime_5 X hl kl_X10_284 (c_X4_open E.2.1 D T (h 19) (h 20) (h 46) N  m_modulus_step m_modulus_width m_modulus_slant m_two_a m_two_b y5 hy5) rfl rfl [] rfl rfl rfl rfl rfl cb_100 rfl (fun H locs X => ?_)
  refine x_pop 9 C dX10_signByPrime_8 rfl rfl ?_
  refine x_aload_n 10 C dX10_signByPrime_9 hl 0 rfl rfl ?_
  refine x_get 13 C dX10_signByPrime_10 X kf_X10_35 0 rfl rfl rfl ?_
  refine x_aload_n 14 C dX10_signByPrime_13 hl 1 rfl rfl ?_
  refine x_aload_n 15 C dX10_signByPrime_14 hl 2 rfl rfl ?_
  obtain ⟨y15, hy15, hf⟩ := kx_bind hf
  refine x_callVl 18 C dX10_signByPrime_15 X hl kl_X10_152 (c_X5_norm E.2.1 D T (h 46)  m_two_a m_two_b y15 hy15) rfl rfl [.ref (h 45), .ref (h 19)] rfl rfl rfl rfl rfl cb_55 rfl (fun H locs X => ?_)
  refine x_lconst 19 C dX10_signByPrime_18 (1 : Int64) kv_lconst_1 rfl ?_
  refine x_lsub 20 C dX10_signByPrime_19 rfl ?_
  refine x_ldc2_w 23 C dX10_signByPrime_20 (3 : Int64) kc_X10_377 rfl ?_
  refine x_ldiv0 24 C dX10_signByPrime_23 kz_l_3 rfl ?_
  refine x_aload_n 25 C dX10_signByPrime_24 hl 0 rfl rfl ?_
  refine x_get 28 C dX10_signByPrime_25 X kf_X10_83 0 rfl rfl rfl ?_
  obtain ⟨y28, hy28, hf⟩ := kx_bind hf
  refine x_callVv 31 C dX10_signByPrime_28 X hl kl_X10_276 (c_X4_raise E.2.1 D T (h 19) (h 20) (h 45) (h 49) N ((y15 - (1 : Int64)) / (3 : Int64)) y5.2.1 y5.2.2.1 y5.2.2.2 m_modulus_square_a m_modulus_square_b m_one_a m_one_b m_out_a m_out_b y28 hy28) rfl rfl [] rfl rfl rfl rfl rfl cb_86 rfl (fun H locs X => ?_)
  refine x_aload_n 32 C dX10_signByPrime_31 hl 0 rfl rfl ?_
  refine x_get 35 C dX10_signByPrime_32 X kf_X10_83 0 rfl rfl rfl ?_
  obtain ⟨y35, hy35, hf⟩ := kx_bind hf
  refine x_callVi 38 C dX10_signByPrime_35 X hl kl_X10_170 (c_X5_isNought E.2.1 D T (h 49)  y28.2.2.1 y28.2.2.2 y35 hy35) rfl rfl [] rfl rfl rfl rfl rfl cb_64 rfl (fun H locs X => ?_)
  refine x_if_eq 43 41 C dX10_signByPrime_38 rfl rfl hf (fun hf => ?_) (fun hf => ?_)
  · refine x_aload_n 44 C dX10_signByPrime_43 hl 0 rfl rfl ?_
    refine x_get 47 C dX10_signByPrime_44 X kf_X10_83 0 rfl rfl rfl ?_
    refine x_lconst 48 C dX10_signByPrime_47 (1 : Int64) kv_lconst_1 rfl ?_
    refine x_lconst 49 C dX10_signByPrime_48 (0 : Int64) kv_lconst_0 rfl ?_
    obtain ⟨y49, hy49, hf⟩ := kx_bind hf
    refine x_callVi 52 C dX10_signByPrime_49 X hl kl_X10_389 (c_X5_isSame_ E.2.1 D T (h 49) (1 : Int64) (0 : Int64) y28.2.2.1 y28.2.2.2 y49 hy49) rfl rfl [] rfl rfl rfl rfl rfl cb_64 rfl (fun H locs X => ?_)
    refine x_if_eq 57 55 C dX10_signByPrime_52 rfl rfl hf (fun hf => ?_) (fun hf => ?_)
    · refine x_aload_n 58 C dX10_signByPrime_57 hl 0 rfl rfl ?_
      refine x_get 61 C dX10_signByPrime_58 X kf_X10_80 0 rfl rfl rfl ?_
      refine x_lconst 62 C dX10_signByPrime_61 (0 : Int64) kv_lconst_0 rfl ?_
      refine x_lconst 63 C dX10_signByPrime_62 (1 : Int64) kv_lconst_1 rfl ?_
      obtain ⟨y63, hy63, hf⟩ := kx_bind hf
      refine x_callVv 66 C dX10_signByPrime_63 X hl kl_X10_122 (c_X5_set E.2.1 D T (h 48) (0 : Int64) (1 : Int64) m_four_a m_four_b y63 hy63) rfl rfl [] rfl rfl rfl rfl rfl cb_87 rfl (fun H locs X => ?_)
      refine x_aload_n 67 C dX10_signByPrime_66 hl 0 rfl rfl ?_
      refine x_get 70 C dX10_signByPrime_67 X kf_X10_35 0 rfl rfl rfl ?_
      refine x_aload_n 71 C dX10_signByPrime_70 hl 0 rfl rfl ?_
      refine x_get 74 C dX10_signByPrime_71 X kf_X10_80 0 rfl rfl rfl ?_
      obtain ⟨y74, hy74, hf⟩ := kx_bind hf
      refine x_callVv 77 C dX10_signByPrime_74 X hl kl_X10_270 (c_X4_reduce E.2.1 D T (h 19) (h 20) (h 48)  y5.2.1 y5.2.2.1 y5.2.2.2 y63.1 y63.2 y74 hy74) rfl rfl [] rfl rfl rfl rfl rfl cb_88 rfl (fun H locs X => ?_)
      refine x_aload_n 78 C dX10_signByPrime_77 hl 0 rfl rfl ?_
      refine x_get 81 C dX10_signByPrime_78 X kf_X10_83 0 rfl rfl rfl ?_
      refine x_aload_n 82 C dX10_signByPrime_81 hl 0 rfl rfl ?_
      refine x_get 85 C dX10_signByPrime_82 X kf_X10_80 0 rfl rfl rfl ?_
      obtain ⟨y85, hy85, hf⟩ := kx_bind hf
      refine x_callVi 88 C dX10_signByPrime_85 X hl kl_X10_314 (c_X5_isSame E.2.1 D T (h 49) (h 48)  y28.2.2.1 y28.2.2.2 y74.1 y74.2 y85 hy85) rfl rfl [] rfl rfl rfl rfl rfl cb_89 rfl (fun H locs X => ?_)
      refine x_if_eq 95 91 C dX10_signByPrime_88 rfl rfl hf (fun hf => ?_) (fun hf => ?_)
      · refine x_iconst 96 C dX10_signByPrime_95 (2 : Int32) kv_iconst_2 rfl ?_
        obtain rfl := Option.some.inj hf
        exact R _ _ _ _ X dX10_signByPrime_96
      refine x_iconst 92 C dX10_signByPrime_91 (1 : Int32) kv_iconst_1 rfl ?_
      refine x_goto 96 C dX10_signByPrime_92 rfl ?_
      obtain rfl := Option.some.inj hf
      exact R _ _ _ _ X dX10_signByPrime_96
    refine x_iconst 56 C dX10_signByPrime_55 (0 : Int32) kv_iconst_0 rfl ?_
    obtain rfl := Option.some.inj hf
    exact R _ _ _ _ X dX10_signByPrime_56
  refine x_iconst 42 C dX10_signByPrime_41 (3 : Int32) kv_iconst_3 rfl ?_
  obtain rfl := Option.some.inj hf
  exact R _ _ _ _ X dX10_signByPrime_42
set_option maxHeartbeats 4000000 in
set_option maxRecDepth 100000 in
theorem w_X10_markSigns_47 {E : KE} {A : Nat → Prop} {D : va_G} {T : KT} (h : Nat → Nat) (C : kx_C E cX10_markSigns 6 none RX10 4 114 D T) (N : Nat) (x : Int64 × Int64 × Int64 × Int64 × Int64 × Int64 × Int64 × Int64 × Int64 × Int64 × Int64 × Int64 × Int64 × (Nat → Int32)) (m_drawers_full m_drawers_kept : Int32) (m_drawers_partA m_drawers_partB m_drawers_keptA m_drawers_keptB m_drawers_keptFull : Nat → Int32) (m_tape_size m_tape_plain m_tape_omegas m_tape_end m_tape_place m_tape_plainTold m_tape_omegasTold : Int32) (m_tape_bytes : Nat → Int32) (m_euclid_count : Int32) (m_euclid_last_a m_euclid_last_b m_euclid_lastOfFirst_a m_euclid_lastOfFirst_b m_euclid_lastOfSecond_a m_euclid_lastOfSecond_b m_euclid_next_a m_euclid_next_b m_euclid_nextOfFirst_a m_euclid_nextOfFirst_b m_euclid_nextOfSecond_a m_euclid_nextOfSecond_b m_euclid_q_a m_euclid_q_b : Int64) (m_euclid_quotientA m_euclid_quotientB : Nat → Int64) (m_factors_count m_factors_threes m_factors_unit : Int32) (m_factors_primeA m_factors_primeB m_factors_norms : Nat → Int64) (m_factors_euclid_count : Int32) (m_factors_euclid_last_a m_factors_euclid_last_b m_factors_euclid_lastOfFirst_a m_factors_euclid_lastOfFirst_b m_factors_euclid_lastOfSecond_a m_factors_euclid_lastOfSecond_b m_factors_euclid_next_a m_factors_euclid_next_b m_factors_euclid_nextOfFirst_a m_factors_euclid_nextOfFirst_b m_factors_euclid_nextOfSecond_a m_factors_euclid_nextOfSecond_b m_factors_euclid_q_a m_factors_euclid_q_b : Int64) (m_factors_euclid_quotientA m_factors_euclid_quotientB : Nat → Int64) (m_factors_left_a m_factors_left_b m_factors_found_a m_factors_found_b m_factors_product_a m_factors_product_b : Int64) (m_primes_count : Int32) (m_primes_primeA m_primes_primeB : Nat → Int32) (m_primes_found_a m_primes_found_b : Int64) (m_rings_foundA m_rings_foundB m_rings_all m_rings_mostOfOneRow m_letters_count : Int32) (m_letters_bytes : Nat → Int32) (m_three_a m_three_b m_spare_a m_spare_b : Int64) (R : kx_RV E cX10_markSigns D A (wC T h m_drawers_full m_drawers_kept m_drawers_partA m_drawers_partB m_drawers_keptA m_drawers_keptB m_drawers_keptFull m_tape_size m_tape_plain m_tape_omegas m_tape_end m_tape_place m_tape_plainTold m_tape_omegasTold m_tape_bytes m_euclid_count m_euclid_last_a m_euclid_last_b m_euclid_lastOfFirst_a m_euclid_lastOfFirst_b m_euclid_lastOfSecond_a m_euclid_lastOfSecond_b m_euclid_next_a m_euclid_next_b m_euclid_nextOfFirst_a m_euclid_nextOfFirst_b m_euclid_nextOfSecond_a m_euclid_nextOfSecond_b m_euclid_q_a m_euclid_q_b m_euclid_quotientA m_euclid_quotientB x.1 x.2.1 x.2.2.1 x.2.2.2.1 x.2.2.2.2.1 m_factors_count m_factors_threes m_factors_unit m_factors_primeA m_factors_primeB m_factors_norms m_factors_euclid_count m_factors_euclid_last_a m_factors_euclid_last_b m_factors_euclid_lastOfFirst_a m_factors_euclid_lastOfFirst_b m_factors_euclid_lastOfSecond_a m_factors_euclid_lastOfSecond_b m_factors_euclid_next_a m_factors_euclid_next_b m_factors_euclid_nextOfFirst_a m_factors_euclid_nextOfFirst_b m_factors_euclid_nextOfSecond_a m_factors_euclid_nextOfSecond_b m_factors_euclid_q_a m_factors_euclid_q_b m_factors_euclid_quotientA m_factors_euclid_quotientB m_factors_left_a m_factors_left_b m_factors_found_a m_factors_found_b m_factors_product_a m_factors_product_b m_primes_count m_primes_primeA m_primes_primeB m_primes_found_a m_primes_found_b m_rings_foundA m_rings_foundB m_rings_all m_rings_mostOfOneRow m_letters_count m_letters_bytes x.2.2.2.2.2.1 x.2.2.2.2.2.2.1 x.2.2.2.2.2.2.2.1 x.2.2.2.2.2.2.2.2.1 m_three_a m_three_b x.2.2.2.2.2.2.2.2.2.1 x.2.2.2.2.2.2.2.2.2.2.1 x.2.2.2.2.2.2.2.2.2.2.2.1 x.2.2.2.2.2.2.2.2.2.2.2.2.1 m_spare_a m_spare_b x.2.2.2.2.2.2.2.2.2.2.2.2.2)) : ∀ (k : Nat), ∀ (m_modulus_step m_modulus_width m_modulus_slant m_modulus_square_a m_modulus_square_b m_one_a m_one_b m_two_a m_two_b m_four_a m_four_b m_out_a m_out_b : Int64) (m_marks : Nat → Int32) (v1 : Int32) (v2 : Int64) (v4 v5 : Int32) (H : Heap) (locs : List Loc) (ls : Array Slot), kx_H E D A H locs (wC T h m_drawers_full m_drawers_kept m_drawers_partA m_drawers_partB m_drawers_keptA m_drawers_keptB m_drawers_keptFull m_tape_size m_tape_plain m_tape_omegas m_tape_end m_tape_place m_tape_plainTold m_tape_omegasTold m_tape_bytes m_euclid_count m_euclid_last_a m_euclid_last_b m_euclid_lastOfFirst_a m_euclid_lastOfFirst_b m_euclid_lastOfSecond_a m_euclid_lastOfSecond_b m_euclid_next_a m_euclid_next_b m_euclid_nextOfFirst_a m_euclid_nextOfFirst_b m_euclid_nextOfSecond_a m_euclid_nextOfSecond_b m_euclid_q_a m_euclid_q_b m_euclid_quotientA m_euclid_quotientB m_modulus_step m_modulus_width m_modulus_slant m_modulus_square_a m_modulus_square_b m_factors_count m_factors_threes m_factors_unit m_factors_primeA m_factors_primeB m_factors_norms m_factors_euclid_count m_factors_euclid_last_a m_factors_euclid_last_b m_factors_euclid_lastOfFirst_a m_factors_euclid_lastOfFirst_b m_factors_euclid_lastOfSecond_a m_factors_euclid_lastOfSecond_b m_factors_euclid_next_a m_factors_euclid_next_b m_factors_euclid_nextOfFirst_a m_factors_euclid_nextOfFirst_b m_factors_euclid_nextOfSecond_a m_factors_euclid_nextOfSecond_b m_factors_euclid_q_a m_factors_euclid_q_b m_factors_euclid_quotientA m_factors_euclid_quotientB m_factors_left_a m_factors_left_b m_factors_found_a m_factors_found_b m_factors_product_a m_factors_product_b m_primes_count m_primes_primeA m_primes_primeB m_primes_found_a m_primes_found_b m_rings_foundA m_rings_foundB m_rings_all m_rings_mostOfOneRow m_letters_count m_letters_bytes m_one_a m_one_b m_two_a m_two_b m_three_a m_three_b m_four_a m_four_b m_out_a m_out_b m_spare_a m_spare_b m_marks) → lv_has ls 6 [(0, .ref (h 0)), (1, .int v1), (2, .long v2), (4, .int v4), (5, .int v5)] → f_X10_markSigns_47 N k v1 v2 v4 v5 m_modulus_step m_modulus_width m_modulus_slant m_modulus_square_a m_modulus_square_b m_one_a m_one_b m_two_a m_two_b m_four_a m_four_b m_out_a m_out_b m_marks = some x → kx_W E H locs 47 ls [] := by
  intro k
  induction k with
  | zero =>
    intro m_modulus_step m_modulus_width m_modulus_slant m_modulus_square_a m_modulus_square_b m_one_a m_one_b m_two_a m_two_b m_four_a m_four_b m_out_a m_out_b m_marks v1 v2 v4 v5 H locs ls X hl hf
    cases (show (none : Option (Int64 × Int64 × Int64 × Int64 × Int64 × Int64 × Int64 × Int64 × Int64 × Int64 × Int64 × Int64 × Int64 × (Nat → Int32))) = some x from hf)
  | succ k ih =>
    intro m_modulus_step m_modulus_width m_modulus_slant m_modulus_square_a m_modulus_square_b m_one_a m_one_b m_two_a m_two_b m_four_a m_four_b m_out_a m_out_b m_marks v1 v2 v4 v5 H locs ls X hl hf
    rw [f_X10_markSigns_47] at hf
    refine x_iload 49 C dX10_markSigns_47 hl 4 rfl rfl ?_
    refine x_iload_n 50 C dX10_markSigns_49 hl 1 rfl rfl ?_
    refine x_icmp_ge 106 53 C dX10_markSigns_50 rfl rfl hf (fun hf => ?_) (fun hf => ?_)
    · obtain rfl := Option.some.inj hf
      exact R _ _ _ _ X dX10_markSigns_106
    refine x_aload_n 54 C dX10_markSigns_53 hl 0 rfl rfl ?_
    refine x_iload 56 C dX10_markSigns_54 hl 4 rfl rfl ?_
    obtain ⟨y56, hy56, hf⟩ := kx_bind hf
    refine x_callVi0 59 C dX10_markSigns_56 X hl kl_X10_324 (c_X10_markAt E.2.1 D T h v5 m_drawers_full m_drawers_kept m_drawers_partA m_drawers_partB m_drawers_keptA m_drawers_keptB m_drawers_keptFull m_tape_size m_tape_plain m_tape_omegas m_tape_end m_tape_place m_tape_plainTold m_tape_omegasTold m_tape_bytes m_euclid_count m_euclid_last_a m_euclid_last_b m_euclid_lastOfFirst_a m_euclid_lastOfFirst_b m_euclid_lastOfSecond_a m_euclid_lastOfSecond_b m_euclid_next_a m_euclid_next_b m_euclid_nextOfFirst_a m_euclid_nextOfFirst_b m_euclid_nextOfSecond_a m_euclid_nextOfSecond_b m_euclid_q_a m_euclid_q_b m_euclid_quotientA m_euclid_quotientB m_modulus_step m_modulus_width m_modulus_slant m_modulus_square_a m_modulus_square_b m_factors_count m_factors_threes m_factors_unit m_factors_primeA m_factors_primeB m_factors_norms m_factors_euclid_count m_factors_euclid_last_a m_factors_euclid_last_b m_factors_euclid_lastOfFirst_a m_factors_euclid_lastOfFirst_b m_factors_euclid_lastOfSecond_a m_factors_euclid_lastOfSecond_b m_factors_euclid_next_a m_factors_euclid_next_b m_factors_euclid_nextOfFirst_a m_factors_euclid_nextOfFirst_b m_factors_euclid_nextOfSecond_a m_factors_euclid_nextOfSecond_b m_factors_euclid_q_a m_factors_euclid_q_b m_factors_euclid_quotientA m_factors_euclid_quotientB m_factors_left_a m_factors_left_b m_factors_found_a m_factors_found_b m_factors_product_a m_factors_product_b m_primes_count m_primes_primeA m_primes_primeB m_primes_found_a m_primes_found_b m_rings_foundA m_rings_foundB m_rings_all m_rings_mostOfOneRow m_letters_count m_letters_bytes m_one_a m_one_b m_two_a m_two_b m_three_a m_three_b m_four_a m_four_b m_out_a m_out_b m_spare_a m_spare_b m_marks y56 hy56) rfl rfl [] rfl rfl rfl rfl rfl rfl (fun H locs X => ?_)
    refine x_if_ne 100 62 C dX10_markSigns_59 rfl rfl hf (fun hf => ?_) (fun hf => ?_)
    · refine x_iinc 103 C dX10_markSigns_100 (1 : Int32) kv_iconst_1 [(5, .int (v5 + (1 : Int32))), (0, .ref (h 0)), (1, .int v1), (2, .long v2), (4, .int v4)] hl 4 rfl rfl rfl rfl (fun ls hl => ?_)
      refine x_goto 47 C dX10_markSigns_103 rfl ?_
      exact ih m_modulus_step m_modulus_width m_modulus_slant m_modulus_square_a m_modulus_square_b m_one_a m_one_b m_two_a m_two_b m_four_a m_four_b m_out_a m_out_b m_marks v1 v2 v4 (v5 + (1 : Int32)) _ _ _ X (lv_sub hl [1, 2, 3, 4, 0] rfl) hf
    refine x_aload_n 63 C dX10_markSigns_62 hl 0 rfl rfl ?_
    refine x_iload 65 C dX10_markSigns_63 hl 4 rfl rfl ?_
    refine x_i2l 66 C dX10_markSigns_65 rfl ?_
    refine x_lload_n 67 C dX10_markSigns_66 hl 2 rfl rfl ?_
    refine x_lmul 68 C dX10_markSigns_67 rfl ?_
    refine x_iload_n 69 C dX10_markSigns_68 hl 1 rfl rfl ?_
    refine x_i2l 70 C dX10_markSigns_69 rfl ?_
    obtain ⟨y70, hy70, hf⟩ := kx_bind hf
    refine x_callSl 73 C dX10_markSigns_70 X hl kl_X10_405 (c_J9_floorMod_f86c9 E.2.1 D T  ((v5).toInt64 * v2) (v1).toInt64  y70 hy70) [.ref (h 0)] rfl rfl rfl rfl rfl cb_2 rfl (fun H locs X => ?_)
    refine x_l2i 74 C dX10_markSigns_73 rfl ?_
    refine x_iload 76 C dX10_markSigns_74 hl 3 rfl rfl ?_
    obtain ⟨y76, hy76, hf⟩ := kx_bind hf
    refine x_callVv0 79 C dX10_markSigns_76 X hl kl_X10_327 (c_X10_mark E.2.1 D T h (y70).toInt32 v4 m_drawers_full m_drawers_kept m_drawers_partA m_drawers_partB m_drawers_keptA m_drawers_keptB m_drawers_keptFull m_tape_size m_tape_plain m_tape_omegas m_tape_end m_tape_place m_tape_plainTold m_tape_omegasTold m_tape_bytes m_euclid_count m_euclid_last_a m_euclid_last_b m_euclid_lastOfFirst_a m_euclid_lastOfFirst_b m_euclid_lastOfSecond_a m_euclid_lastOfSecond_b m_euclid_next_a m_euclid_next_b m_euclid_nextOfFirst_a m_euclid_nextOfFirst_b m_euclid_nextOfSecond_a m_euclid_nextOfSecond_b m_euclid_q_a m_euclid_q_b m_euclid_quotientA m_euclid_quotientB m_modulus_step m_modulus_width m_modulus_slant m_modulus_square_a m_modulus_square_b m_factors_count m_factors_threes m_factors_unit m_factors_primeA m_factors_primeB m_factors_norms m_factors_euclid_count m_factors_euclid_last_a m_factors_euclid_last_b m_factors_euclid_lastOfFirst_a m_factors_euclid_lastOfFirst_b m_factors_euclid_lastOfSecond_a m_factors_euclid_lastOfSecond_b m_factors_euclid_next_a m_factors_euclid_next_b m_factors_euclid_nextOfFirst_a m_factors_euclid_nextOfFirst_b m_factors_euclid_nextOfSecond_a m_factors_euclid_nextOfSecond_b m_factors_euclid_q_a m_factors_euclid_q_b m_factors_euclid_quotientA m_factors_euclid_quotientB m_factors_left_a m_factors_left_b m_factors_found_a m_factors_found_b m_factors_product_a m_factors_product_b m_primes_count m_primes_primeA m_primes_primeB m_primes_found_a m_primes_found_b m_rings_foundA m_rings_foundB m_rings_all m_rings_mostOfOneRow m_letters_count m_letters_bytes m_one_a m_one_b m_two_a m_two_b m_three_a m_three_b m_four_a m_four_b m_out_a m_out_b m_spare_a m_spare_b m_marks y76 hy76) rfl rfl [] rfl rfl rfl rfl rfl rfl (fun H locs X => ?_)
    refine x_aload_n 80 C dX10_markSigns_79 hl 0 rfl rfl ?_
    refine x_iload 82 C dX10_markSigns_80 hl 4 rfl rfl ?_
    refine x_i2l 83 C dX10_markSigns_82 rfl ?_
    refine x_lload_n 84 C dX10_markSigns_83 hl 2 rfl rfl ?_
    refine x_lmul 85 C dX10_markSigns_84 rfl ?_
    refine x_lload_n 86 C dX10_markSigns_85 hl 2 rfl rfl ?_
    refine x_lmul 87 C dX10_markSigns_86 rfl ?_
    refine x_iload_n 88 C dX10_markSigns_87 hl 1 rfl rfl ?_
    refine x_i2l 89 C dX10_markSigns_88 rfl ?_
    obtain ⟨y89, hy89, hf⟩ := kx_bind hf
    refine x_callSl 92 C dX10_markSigns_89 X hl kl_X10_405 (c_J9_floorMod_f86c9 E.2.1 D T  (((v5).toInt64 * v2) * v2) (v1).toInt64  y89 hy89) [.ref (h 0)] rfl rfl rfl rfl rfl cb_2 rfl (fun H locs X => ?_)
    refine x_l2i 93 C dX10_markSigns_92 rfl ?_
    refine x_iconst 94 C dX10_markSigns_93 (3 : Int32) kv_iconst_3 rfl ?_
    refine x_iload 96 C dX10_markSigns_94 hl 3 rfl rfl ?_
    refine x_isub 97 C dX10_markSigns_96 rfl ?_
    obtain ⟨y97, hy97, hf⟩ := kx_bind hf
    refine x_callVv0 100 C dX10_markSigns_97 X hl kl_X10_327 (c_X10_mark E.2.1 D T h (y89).toInt32 ((3 : Int32) - v4) m_drawers_full m_drawers_kept m_drawers_partA m_drawers_partB m_drawers_keptA m_drawers_keptB m_drawers_keptFull m_tape_size m_tape_plain m_tape_omegas m_tape_end m_tape_place m_tape_plainTold m_tape_omegasTold m_tape_bytes m_euclid_count m_euclid_last_a m_euclid_last_b m_euclid_lastOfFirst_a m_euclid_lastOfFirst_b m_euclid_lastOfSecond_a m_euclid_lastOfSecond_b m_euclid_next_a m_euclid_next_b m_euclid_nextOfFirst_a m_euclid_nextOfFirst_b m_euclid_nextOfSecond_a m_euclid_nextOfSecond_b m_euclid_q_a m_euclid_q_b m_euclid_quotientA m_euclid_quotientB m_modulus_step m_modulus_width m_modulus_slant m_modulus_square_a m_modulus_square_b m_factors_count m_factors_threes m_factors_unit m_factors_primeA m_factors_primeB m_factors_norms m_factors_euclid_count m_factors_euclid_last_a m_factors_euclid_last_b m_factors_euclid_lastOfFirst_a m_factors_euclid_lastOfFirst_b m_factors_euclid_lastOfSecond_a m_factors_euclid_lastOfSecond_b m_factors_euclid_next_a m_factors_euclid_next_b m_factors_euclid_nextOfFirst_a m_factors_euclid_nextOfFirst_b m_factors_euclid_nextOfSecond_a m_factors_euclid_nextOfSecond_b m_factors_euclid_q_a m_factors_euclid_q_b m_factors_euclid_quotientA m_factors_euclid_quotientB m_factors_left_a m_factors_left_b m_factors_found_a m_factors_found_b m_factors_product_a m_factors_product_b m_primes_count m_primes_primeA m_primes_primeB m_primes_found_a m_primes_found_b m_rings_foundA m_rings_foundB m_rings_all m_rings_mostOfOneRow m_letters_count m_letters_bytes m_one_a m_one_b m_two_a m_two_b m_three_a m_three_b m_four_a m_four_b m_out_a m_out_b m_spare_a m_spare_b y76 y97 hy97) rfl rfl [] rfl rfl rfl rfl rfl rfl (fun H locs X => ?_)
    refine x_iinc 103 C dX10_markSigns_100 (1 : Int32) kv_iconst_1 [(5, .int (v5 + (1 : Int32))), (0, .ref (h 0)), (1, .int v1), (2, .long v2), (4, .int v4)] hl 4 rfl rfl rfl rfl (fun ls hl => ?_)
    refine x_goto 47 C dX10_markSigns_103 rfl ?_
    exact ih m_modulus_step m_modulus_width m_modulus_slant m_modulus_square_a m_modulus_square_b m_one_a m_one_b m_two_a m_two_b m_four_a m_four_b m_out_a m_out_b y97 v1 v2 v4 (v5 + (1 : Int32)) _ _ _ X (lv_sub hl [1, 2, 3, 4, 0] rfl) hf
set_option maxHeartbeats 4000000 in
set_option maxRecDepth 100000 in
theorem c_X10_markSigns (l : Launch) (D : va_G) (T : KT) (h : Nat → Nat) (N : Nat) (v1 : Int32) (m_drawers_full m_drawers_kept : Int32) (m_drawers_partA m_drawers_partB m_drawers_keptA m_drawers_keptB m_drawers_keptFull : Nat → Int32) (m_tape_size m_tape_plain m_tape_omegas m_tape_end m_tape_place m_tape_plainTold m_tape_omegasTold : Int32) (m_tape_bytes : Nat → Int32) (m_euclid_count : Int32) (m_euclid_last_a m_euclid_last_b m_euclid_lastOfFirst_a m_euclid_lastOfFirst_b m_euclid_lastOfSecond_a m_euclid_lastOfSecond_b m_euclid_next_a m_euclid_next_b m_euclid_nextOfFirst_a m_euclid_nextOfFirst_b m_euclid_nextOfSecond_a m_euclid_nextOfSecond_b m_euclid_q_a m_euclid_q_b : Int64) (m_euclid_quotientA m_euclid_quotientB : Nat → Int64) (m_modulus_step m_modulus_width m_modulus_slant m_modulus_square_a m_modulus_square_b : Int64) (m_factors_count m_factors_threes m_factors_unit : Int32) (m_factors_primeA m_factors_primeB m_factors_norms : Nat → Int64) (m_factors_euclid_count : Int32) (m_factors_euclid_last_a m_factors_euclid_last_b m_factors_euclid_lastOfFirst_a m_factors_euclid_lastOfFirst_b m_factors_euclid_lastOfSecond_a m_factors_euclid_lastOfSecond_b m_factors_euclid_next_a m_factors_euclid_next_b m_factors_euclid_nextOfFirst_a m_factors_euclid_nextOfFirst_b m_factors_euclid_nextOfSecond_a m_factors_euclid_nextOfSecond_b m_factors_euclid_q_a m_factors_euclid_q_b : Int64) (m_factors_euclid_quotientA m_factors_euclid_quotientB : Nat → Int64) (m_factors_left_a m_factors_left_b m_factors_found_a m_factors_found_b m_factors_product_a m_factors_product_b : Int64) (m_primes_count : Int32) (m_primes_primeA m_primes_primeB : Nat → Int32) (m_primes_found_a m_primes_found_b : Int64) (m_rings_foundA m_rings_foundB m_rings_all m_rings_mostOfOneRow m_letters_count : Int32) (m_letters_bytes : Nat → Int32) (m_one_a m_one_b m_two_a m_two_b m_three_a m_three_b m_four_a m_four_b m_out_a m_out_b m_spare_a m_spare_b : Int64) (m_marks : Nat → Int32) (x : Int64 × Int64 × Int64 × Int64 × Int64 × Int64 × Int64 × Int64 × Int64 × Int64 × Int64 × Int64 × Int64 × (Nat → Int32)) (hf : f_X10_markSigns N v1 m_modulus_step m_modulus_width m_modulus_slant m_two_a m_two_b m_four_a m_four_b m_marks = some x) : kx_MV l yX10_markSigns cX10_markSigns 6 none 4 114 D T [.ref (h 0), .int v1] (wC T h m_drawers_full m_drawers_kept m_drawers_partA m_drawers_partB m_drawers_keptA m_drawers_keptB m_drawers_keptFull m_tape_size m_tape_plain m_tape_omegas m_tape_end m_tape_place m_tape_plainTold m_tape_omegasTold m_tape_bytes m_euclid_count m_euclid_last_a m_euclid_last_b m_euclid_lastOfFirst_a m_euclid_lastOfFirst_b m_euclid_lastOfSecond_a m_euclid_lastOfSecond_b m_euclid_next_a m_euclid_next_b m_euclid_nextOfFirst_a m_euclid_nextOfFirst_b m_euclid_nextOfSecond_a m_euclid_nextOfSecond_b m_euclid_q_a m_euclid_q_b m_euclid_quotientA m_euclid_quotientB m_modulus_step m_modulus_width m_modulus_slant m_modulus_square_a m_modulus_square_b m_factors_count m_factors_threes m_factors_unit m_factors_primeA m_factors_primeB m_factors_norms m_factors_euclid_count m_factors_euclid_last_a m_factors_euclid_last_b m_factors_euclid_lastOfFirst_a m_factors_euclid_lastOfFirst_b m_factors_euclid_lastOfSecond_a m_factors_euclid_lastOfSecond_b m_factors_euclid_next_a m_factors_euclid_next_b m_factors_euclid_nextOfFirst_a m_factors_euclid_nextOfFirst_b m_factors_euclid_nextOfSecond_a m_factors_euclid_nextOfSecond_b m_factors_euclid_q_a m_factors_euclid_q_b m_factors_euclid_quotientA m_factors_euclid_quotientB m_factors_left_a m_factors_left_b m_factors_found_a m_factors_found_b m_factors_product_a m_factors_product_b m_primes_count m_primes_primeA m_primes_primeB m_primes_found_a m_primes_found_b m_rings_foundA m_rings_foundB m_rings_all m_rings_mostOfOneRow m_letters_count m_letters_bytes m_one_a m_one_b m_two_a m_two_b m_three_a m_three_b m_four_a m_four_b m_out_a m_out_b m_spare_a m_spare_b m_marks) (wC T h m_drawers_full m_drawers_kept m_drawers_partA m_drawers_partB m_drawers_keptA m_drawers_keptB m_drawers_keptFull m_tape_size m_tape_plain m_tape_omegas m_tape_end m_tape_place m_tape_plainTold m_tape_omegasTold m_tape_bytes m_euclid_count m_euclid_last_a m_euclid_last_b m_euclid_lastOfFirst_a m_euclid_lastOfFirst_b m_euclid_lastOfSecond_a m_euclid_lastOfSecond_b m_euclid_next_a m_euclid_next_b m_euclid_nextOfFirst_a m_euclid_nextOfFirst_b m_euclid_nextOfSecond_a m_euclid_nextOfSecond_b m_euclid_q_a m_euclid_q_b m_euclid_quotientA m_euclid_quotientB x.1 x.2.1 x.2.2.1 x.2.2.2.1 x.2.2.2.2.1 m_factors_count m_factors_threes m_factors_unit m_factors_primeA m_factors_primeB m_factors_norms m_factors_euclid_count m_factors_euclid_last_a m_factors_euclid_last_b m_factors_euclid_lastOfFirst_a m_factors_euclid_lastOfFirst_b m_factors_euclid_lastOfSecond_a m_factors_euclid_lastOfSecond_b m_factors_euclid_next_a m_factors_euclid_next_b m_factors_euclid_nextOfFirst_a m_factors_euclid_nextOfFirst_b m_factors_euclid_nextOfSecond_a m_factors_euclid_nextOfSecond_b m_factors_euclid_q_a m_factors_euclid_q_b m_factors_euclid_quotientA m_factors_euclid_quotientB m_factors_left_a m_factors_left_b m_factors_found_a m_factors_found_b m_factors_product_a m_factors_product_b m_primes_count m_primes_primeA m_primes_primeB m_primes_found_a m_primes_found_b m_rings_foundA m_rings_foundB m_rings_all m_rings_mostOfOneRow m_letters_count m_letters_bytes x.2.2.2.2.2.1 x.2.2.2.2.2.2.1 x.2.2.2.2.2.2.2.1 x.2.2.2.2.2.2.2.2.1 m_three_a m_three_b x.2.2.2.2.2.2.2.2.2.1 x.2.2.2.2.2.2.2.2.2.2.1 x.2.2.2.2.2.2.2.2.2.2.2.1 x.2.2.2.2.2.2.2.2.2.2.2.2.1 m_spare_a m_spare_b x.2.2.2.2.2.2.2.2.2.2.2.2.2) := by
  refine kx_ofMV RX10 rfl (plainFor_of_name (x := yX10_markSigns) kpn_X10) rfl ?_
  intro E A H ls _ C X R hl
  have hl : lv_has ls 6 [(0, .ref (h 0)), (1, .int v1)] := hl
  rw [f_X10_markSigns] at hf
  refine x_aload_n 1 C dX10_markSigns_0 hl 0 rfl rfl ?_
  refine x_iload_n 2 C dX10_markSigns_1 hl 1 rfl rfl ?_
  obtain ⟨y2, hy2, hf⟩ := kx_bind hf
  refine x_callVv0 5 C dX10_markSigns_2 X hl kl_X10_398 (c_X10_markCubes E.2.1 D T h N v1 m_drawers_full m_drawers_kept m_drawers_partA m_drawers_partB m_drawers_keptA m_drawers_keptB m_drawers_keptFull m_tape_size m_tape_plain m_tape_omegas m_tape_end m_tape_place m_tape_plainTold m_tape_omegasTold m_tape_bytes m_euclid_count m_euclid_last_a m_euclid_last_b m_euclid_lastOfFirst_a m_euclid_lastOfFirst_b m_euclid_lastOfSecond_a m_euclid_lastOfSecond_b m_euclid_next_a m_euclid_next_b m_euclid_nextOfFirst_a m_euclid_nextOfFirst_b m_euclid_nextOfSecond_a m_euclid_nextOfSecond_b m_euclid_q_a m_euclid_q_b m_euclid_quotientA m_euclid_quotientB m_modulus_step m_modulus_width m_modulus_slant m_modulus_square_a m_modulus_square_b m_factors_count m_factors_threes m_factors_unit m_factors_primeA m_factors_primeB m_factors_norms m_factors_euclid_count m_factors_euclid_last_a m_factors_euclid_last_b m_factors_euclid_lastOfFirst_a m_factors_euclid_lastOfFirst_b m_factors_euclid_lastOfSecond_a m_factors_euclid_lastOfSecond_b m_factors_euclid_next_a m_factors_euclid_next_b m_factors_euclid_nextOfFirst_a m_factors_euclid_nextOfFirst_b m_factors_euclid_nextOfSecond_a m_factors_euclid_nextOfSecond_b m_factors_euclid_q_a m_factors_euclid_q_b m_factors_euclid_quotientA m_factors_euclid_quotientB m_factors_left_a m_factors_left_b m_factors_found_a m_factors_found_b m_factors_product_a m_factors_product_b m_primes_count m_primes_primeA m_primes_primeB m_primes_found_a m_primes_found_b m_rings_foundA m_rings_foundB m_rings_all m_rings_mostOfOneRow m_letters_count m_letters_bytes m_one_a m_one_b m_two_a m_two_b m_three_a m_three_b m_four_a m_four_b m_out_a m_out_b m_spare_a m_spare_b m_marks y2 hy2) rfl rfl [] rfl rfl rfl rfl rfl rfl (fun H locs X => ?_)
  refine x_iload_n 6 C dX10_markSigns_5 hl 1 rfl rfl ?_
  refine x_aload_n 7 C dX10_markSigns_6 hl 0 rfl rfl ?_
  refine x_get 10 C dX10_markSigns_7 X kf_X10_74 0 rfl rfl rfl ?_
  obtain ⟨y10, hy10, hf⟩ := kx_bind hf
  refine x_callSv 13 C dX10_markSigns_10 X hl kl_X10_395 (c_X6_splitInto E.2.1 D T (h 46) N v1 m_two_a m_two_b y10 hy10) [] rfl rfl rfl rfl rfl cb_127 rfl (fun H locs X => ?_)
  refine x_aload_n 14 C dX10_markSigns_13 hl 0 rfl rfl ?_
  refine x_iload_n 15 C dX10_markSigns_14 hl 1 rfl rfl ?_
  refine x_iconst 16 C dX10_markSigns_15 (0 : Int32) kv_iconst_0 rfl ?_
  obtain ⟨y16, hy16, hf⟩ := kx_bind hf
  refine x_callVi0 19 C dX10_markSigns_16 X hl kl_X10_401 (c_X10_leastMarked E.2.1 D T h N v1 (0 : Int32) m_drawers_full m_drawers_kept m_drawers_partA m_drawers_partB m_drawers_keptA m_drawers_keptB m_drawers_keptFull m_tape_size m_tape_plain m_tape_omegas m_tape_end m_tape_place m_tape_plainTold m_tape_omegasTold m_tape_bytes m_euclid_count m_euclid_last_a m_euclid_last_b m_euclid_lastOfFirst_a m_euclid_lastOfFirst_b m_euclid_lastOfSecond_a m_euclid_lastOfSecond_b m_euclid_next_a m_euclid_next_b m_euclid_nextOfFirst_a m_euclid_nextOfFirst_b m_euclid_nextOfSecond_a m_euclid_nextOfSecond_b m_euclid_q_a m_euclid_q_b m_euclid_quotientA m_euclid_quotientB m_modulus_step m_modulus_width m_modulus_slant m_modulus_square_a m_modulus_square_b m_factors_count m_factors_threes m_factors_unit m_factors_primeA m_factors_primeB m_factors_norms m_factors_euclid_count m_factors_euclid_last_a m_factors_euclid_last_b m_factors_euclid_lastOfFirst_a m_factors_euclid_lastOfFirst_b m_factors_euclid_lastOfSecond_a m_factors_euclid_lastOfSecond_b m_factors_euclid_next_a m_factors_euclid_next_b m_factors_euclid_nextOfFirst_a m_factors_euclid_nextOfFirst_b m_factors_euclid_nextOfSecond_a m_factors_euclid_nextOfSecond_b m_factors_euclid_q_a m_factors_euclid_q_b m_factors_euclid_quotientA m_factors_euclid_quotientB m_factors_left_a m_factors_left_b m_factors_found_a m_factors_found_b m_factors_product_a m_factors_product_b m_primes_count m_primes_primeA m_primes_primeB m_primes_found_a m_primes_found_b m_rings_foundA m_rings_foundB m_rings_all m_rings_mostOfOneRow m_letters_count m_letters_bytes m_one_a m_one_b y10.1 y10.2 m_three_a m_three_b m_four_a m_four_b m_out_a m_out_b m_spare_a m_spare_b y2 y16 hy16) rfl rfl [] rfl rfl rfl rfl rfl rfl (fun H locs X => ?_)
  refine x_i2l 20 C dX10_markSigns_19 rfl ?_
  refine x_lstore_n 21 C dX10_markSigns_20 [(2, .long (y16).toInt64), (0, .ref (h 0)), (1, .int v1)] hl rfl rfl rfl (fun ls hl => ?_)
  refine x_aload_n 22 C dX10_markSigns_21 hl 1 rfl rfl ?_
  refine x_get 25 C dX10_markSigns_22 X kf_X10_70 0 rfl rfl rfl ?_
  refine x_lload_n 26 C dX10_markSigns_25 hl 0 rfl rfl ?_
  refine x_lconst 27 C dX10_markSigns_26 (0 : Int64) kv_lconst_0 rfl ?_
  obtain ⟨y27, hy27, hf⟩ := kx_bind hf
  refine x_callVv 30 C dX10_markSigns_27 X hl kl_X10_122 (c_X5_set E.2.1 D T (h 45) (y16).toInt64 (0 : Int64) m_one_a m_one_b y27 hy27) rfl rfl [] rfl rfl rfl rfl rfl cb_12 rfl (fun H locs X => ?_)
  refine x_aload_n 31 C dX10_markSigns_30 hl 1 rfl rfl ?_
  refine x_aload_n 32 C dX10_markSigns_31 hl 1 rfl rfl ?_
  refine x_get 35 C dX10_markSigns_32 X kf_X10_70 0 rfl rfl rfl ?_
  refine x_aload_n 36 C dX10_markSigns_35 hl 1 rfl rfl ?_
  refine x_get 39 C dX10_markSigns_36 X kf_X10_74 0 rfl rfl rfl ?_
  obtain ⟨y39, hy39, hf⟩ := kx_bind hf
  refine x_callVi0 42 C dX10_markSigns_39 X hl kl_X10_262 (c_X10_signByPrime_p1_one_p2_two E.2.1 D T h N  m_drawers_full m_drawers_kept m_drawers_partA m_drawers_partB m_drawers_keptA m_drawers_keptB m_drawers_keptFull m_tape_size m_tape_plain m_tape_omegas m_tape_end m_tape_place m_tape_plainTold m_tape_omegasTold m_tape_bytes m_euclid_count m_euclid_last_a m_euclid_last_b m_euclid_lastOfFirst_a m_euclid_lastOfFirst_b m_euclid_lastOfSecond_a m_euclid_lastOfSecond_b m_euclid_next_a m_euclid_next_b m_euclid_nextOfFirst_a m_euclid_nextOfFirst_b m_euclid_nextOfSecond_a m_euclid_nextOfSecond_b m_euclid_q_a m_euclid_q_b m_euclid_quotientA m_euclid_quotientB m_modulus_step m_modulus_width m_modulus_slant m_modulus_square_a m_modulus_square_b m_factors_count m_factors_threes m_factors_unit m_factors_primeA m_factors_primeB m_factors_norms m_factors_euclid_count m_factors_euclid_last_a m_factors_euclid_last_b m_factors_euclid_lastOfFirst_a m_factors_euclid_lastOfFirst_b m_factors_euclid_lastOfSecond_a m_factors_euclid_lastOfSecond_b m_factors_euclid_next_a m_factors_euclid_next_b m_factors_euclid_nextOfFirst_a m_factors_euclid_nextOfFirst_b m_factors_euclid_nextOfSecond_a m_factors_euclid_nextOfSecond_b m_factors_euclid_q_a m_factors_euclid_q_b m_factors_euclid_quotientA m_factors_euclid_quotientB m_factors_left_a m_factors_left_b m_factors_found_a m_factors_found_b m_factors_product_a m_factors_product_b m_primes_count m_primes_primeA m_primes_primeB m_primes_found_a m_primes_found_b m_rings_foundA m_rings_foundB m_rings_all m_rings_mostOfOneRow m_letters_count m_letters_bytes y27.1 y27.2 y10.1 y10.2 m_three_a m_three_b m_four_a m_four_b m_out_a m_out_b m_spare_a m_spare_b y2 y39 hy39) rfl rfl [] rfl rfl rfl rfl rfl rfl (fun H locs X => ?_)
  refine x_istore 44 C dX10_markSigns_42 [(4, .int y39.1), (2, .long (y16).toInt64), (0, .ref (h 0)), (1, .int v1)] hl rfl rfl rfl (fun ls hl => ?_)
  refine x_iconst 45 C dX10_markSigns_44 (1 : Int32) kv_iconst_1 rfl ?_
  refine x_istore 47 C dX10_markSigns_45 [(5, .int (1 : Int32)), (4, .int y39.1), (2, .long (y16).toInt64), (0, .ref (h 0)), (1, .int v1)] hl rfl rfl rfl (fun ls hl => ?_)
  exact w_X10_markSigns_47 h C N x m_drawers_full m_drawers_kept m_drawers_partA m_drawers_partB m_drawers_keptA m_drawers_keptB m_drawers_keptFull m_tape_size m_tape_plain m_tape_omegas m_tape_end m_tape_place m_tape_plainTold m_tape_omegasTold m_tape_bytes m_euclid_count m_euclid_last_a m_euclid_last_b m_euclid_lastOfFirst_a m_euclid_lastOfFirst_b m_euclid_lastOfSecond_a m_euclid_lastOfSecond_b m_euclid_next_a m_euclid_next_b m_euclid_nextOfFirst_a m_euclid_nextOfFirst_b m_euclid_nextOfSecond_a m_euclid_nextOfSecond_b m_euclid_q_a m_euclid_q_b m_euclid_quotientA m_euclid_quotientB m_factors_count m_factors_threes m_factors_unit m_factors_primeA m_factors_primeB m_factors_norms m_factors_euclid_count m_factors_euclid_last_a m_factors_euclid_last_b m_factors_euclid_lastOfFirst_a m_factors_euclid_lastOfFirst_b m_factors_euclid_lastOfSecond_a m_factors_euclid_lastOfSecond_b m_factors_euclid_next_a m_factors_euclid_next_b m_factors_euclid_nextOfFirst_a m_factors_euclid_nextOfFirst_b m_factors_euclid_nextOfSecond_a m_factors_euclid_nextOfSecond_b m_factors_euclid_q_a m_factors_euclid_q_b m_factors_euclid_quotientA m_factors_euclid_quotientB m_factors_left_a m_factors_left_b m_factors_found_a m_factors_found_b m_factors_product_a m_factors_product_b m_primes_count m_primes_primeA m_primes_primeB m_primes_found_a m_primes_found_b m_rings_foundA m_rings_foundB m_rings_all m_rings_mostOfOneRow m_letters_count m_letters_bytes m_three_a m_three_b m_spare_a m_spare_b R  N y39.2.1 y39.2.2.1 y39.2.2.2.1 y39.2.2.2.2.1 y39.2.2.2.2.2.1 y27.1 y27.2 y10.1 y10.2 y39.2.2.2.2.2.2.1 y39.2.2.2.2.2.2.2.1 y39.2.2.2.2.2.2.2.2.1 y39.2.2.2.2.2.2.2.2.2 y2 v1 (y16).toInt64 y39.1 (1 : Int32) _ _ _ X (lv_sub hl [3, 4, 2, 1, 0] rfl) hf
set_option maxHeartbeats 4000000 in
set_option maxRecDepth 100000 in
theorem c_X10_thirdRoots (l : Launch) (D : va_G) (T : KT) (h : Nat → Nat) (v1 : Int32) (m_drawers_full m_drawers_kept : Int32) (m_drawers_partA m_drawers_partB m_drawers_keptA m_drawers_keptB m_drawers_keptFull : Nat → Int32) (m_tape_size m_tape_plain m_tape_omegas m_tape_end m_tape_place m_tape_plainTold m_tape_omegasTold : Int32) (m_tape_bytes : Nat → Int32) (m_euclid_count : Int32) (m_euclid_last_a m_euclid_last_b m_euclid_lastOfFirst_a m_euclid_lastOfFirst_b m_euclid_lastOfSecond_a m_euclid_lastOfSecond_b m_euclid_next_a m_euclid_next_b m_euclid_nextOfFirst_a m_euclid_nextOfFirst_b m_euclid_nextOfSecond_a m_euclid_nextOfSecond_b m_euclid_q_a m_euclid_q_b : Int64) (m_euclid_quotientA m_euclid_quotientB : Nat → Int64) (m_modulus_step m_modulus_width m_modulus_slant m_modulus_square_a m_modulus_square_b : Int64) (m_factors_count m_factors_threes m_factors_unit : Int32) (m_factors_primeA m_factors_primeB m_factors_norms : Nat → Int64) (m_factors_euclid_count : Int32) (m_factors_euclid_last_a m_factors_euclid_last_b m_factors_euclid_lastOfFirst_a m_factors_euclid_lastOfFirst_b m_factors_euclid_lastOfSecond_a m_factors_euclid_lastOfSecond_b m_factors_euclid_next_a m_factors_euclid_next_b m_factors_euclid_nextOfFirst_a m_factors_euclid_nextOfFirst_b m_factors_euclid_nextOfSecond_a m_factors_euclid_nextOfSecond_b m_factors_euclid_q_a m_factors_euclid_q_b : Int64) (m_factors_euclid_quotientA m_factors_euclid_quotientB : Nat → Int64) (m_factors_left_a m_factors_left_b m_factors_found_a m_factors_found_b m_factors_product_a m_factors_product_b : Int64) (m_primes_count : Int32) (m_primes_primeA m_primes_primeB : Nat → Int32) (m_primes_found_a m_primes_found_b : Int64) (m_rings_foundA m_rings_foundB m_rings_all m_rings_mostOfOneRow m_letters_count : Int32) (m_letters_bytes : Nat → Int32) (m_one_a m_one_b m_two_a m_two_b m_three_a m_three_b m_four_a m_four_b m_out_a m_out_b m_spare_a m_spare_b : Int64) (m_marks : Nat → Int32) (x : Int32) (hf : f_X10_thirdRoots v1 m_marks = some x) : kx_MI l yX10_thirdRoots cX10_thirdRoots 2 (some .int) 1 21 D T [.ref (h 0), .int v1] (wC T h m_drawers_full m_drawers_kept m_drawers_partA m_drawers_partB m_drawers_keptA m_drawers_keptB m_drawers_keptFull m_tape_size m_tape_plain m_tape_omegas m_tape_end m_tape_place m_tape_plainTold m_tape_omegasTold m_tape_bytes m_euclid_count m_euclid_last_a m_euclid_last_b m_euclid_lastOfFirst_a m_euclid_lastOfFirst_b m_euclid_lastOfSecond_a m_euclid_lastOfSecond_b m_euclid_next_a m_euclid_next_b m_euclid_nextOfFirst_a m_euclid_nextOfFirst_b m_euclid_nextOfSecond_a m_euclid_nextOfSecond_b m_euclid_q_a m_euclid_q_b m_euclid_quotientA m_euclid_quotientB m_modulus_step m_modulus_width m_modulus_slant m_modulus_square_a m_modulus_square_b m_factors_count m_factors_threes m_factors_unit m_factors_primeA m_factors_primeB m_factors_norms m_factors_euclid_count m_factors_euclid_last_a m_factors_euclid_last_b m_factors_euclid_lastOfFirst_a m_factors_euclid_lastOfFirst_b m_factors_euclid_lastOfSecond_a m_factors_euclid_lastOfSecond_b m_factors_euclid_next_a m_factors_euclid_next_b m_factors_euclid_nextOfFirst_a m_factors_euclid_nextOfFirst_b m_factors_euclid_nextOfSecond_a m_factors_euclid_nextOfSecond_b m_factors_euclid_q_a m_factors_euclid_q_b m_factors_euclid_quotientA m_factors_euclid_quotientB m_factors_left_a m_factors_left_b m_factors_found_a m_factors_found_b m_factors_product_a m_factors_product_b m_primes_count m_primes_primeA m_primes_primeB m_primes_found_a m_primes_found_b m_rings_foundA m_rings_foundB m_rings_all m_rings_mostOfOneRow m_letters_count m_letters_bytes m_one_a m_one_b m_two_a m_two_b m_three_a m_three_b m_four_a m_four_b m_out_a m_out_b m_spare_a m_spare_b m_marks) (wC T h m_drawers_full m_drawers_kept m_drawers_partA m_drawers_partB m_drawers_keptA m_drawers_keptB m_drawers_keptFull m_tape_size m_tape_plain m_tape_omegas m_tape_end m_tape_place m_tape_plainTold m_tape_omegasTold m_tape_bytes m_euclid_count m_euclid_last_a m_euclid_last_b m_euclid_lastOfFirst_a m_euclid_lastOfFirst_b m_euclid_lastOfSecond_a m_euclid_lastOfSecond_b m_euclid_next_a m_euclid_next_b m_euclid_nextOfFirst_a m_euclid_nextOfFirst_b m_euclid_nextOfSecond_a m_euclid_nextOfSecond_b m_euclid_q_a m_euclid_q_b m_euclid_quotientA m_euclid_quotientB m_modulus_step m_modulus_width m_modulus_slant m_modulus_square_a m_modulus_square_b m_factors_count m_factors_threes m_factors_unit m_factors_primeA m_factors_primeB m_factors_norms m_factors_euclid_count m_factors_euclid_last_a m_factors_euclid_last_b m_factors_euclid_lastOfFirst_a m_factors_euclid_lastOfFirst_b m_factors_euclid_lastOfSecond_a m_factors_euclid_lastOfSecond_b m_factors_euclid_next_a m_factors_euclid_next_b m_factors_euclid_nextOfFirst_a m_factors_euclid_nextOfFirst_b m_factors_euclid_nextOfSecond_a m_factors_euclid_nextOfSecond_b m_factors_euclid_q_a m_factors_euclid_q_b m_factors_euclid_quotientA m_factors_euclid_quotientB m_factors_left_a m_factors_left_b m_factors_found_a m_factors_found_b m_factors_product_a m_factors_product_b m_primes_count m_primes_primeA m_primes_primeB m_primes_found_a m_primes_found_b m_rings_foundA m_rings_foundB m_rings_all m_rings_mostOfOneRow m_letters_count m_letters_bytes m_one_a m_one_b m_two_a m_two_b m_three_a m_three_b m_four_a m_four_b m_out_a m_out_b m_spare_a m_spare_b m_marks) x := by
  refine kx_ofMI RX10 rfl (plainFor_of_name (x := yX10_thirdRoots) kpn_X10) rfl ?_
  intro E A H ls _ C X R hl
  have hl : lv_has ls 2 [(0, .ref (h 0)), (1, .int v1)] := hl
  rw [f_X10_thirdRoots] at hf
  refine x_iload_n 1 C dX10_thirdRoots_0 hl 1 rfl rfl ?_
  refine x_if_ne 6 4 C dX10_thirdRoots_1 rfl rfl hf (fun hf => ?_) (fun hf => ?_)
  · refine x_aload_n 7 C dX10_thirdRoots_6 hl 0 rfl rfl ?_
    refine x_iload_n 8 C dX10_thirdRoots_7 hl 1 rfl rfl ?_
    obtain ⟨y8, hy8, hf⟩ := kx_bind hf
    refine x_callVi0 11 C dX10_thirdRoots_8 X hl kl_X10_324 (c_X10_markAt E.2.1 D T h v1 m_drawers_full m_drawers_kept m_drawers_partA m_drawers_partB m_drawers_keptA m_drawers_keptB m_drawers_keptFull m_tape_size m_tape_plain m_tape_omegas m_tape_end m_tape_place m_tape_plainTold m_tape_omegasTold m_tape_bytes m_euclid_count m_euclid_last_a m_euclid_last_b m_euclid_lastOfFirst_a m_euclid_lastOfFirst_b m_euclid_lastOfSecond_a m_euclid_lastOfSecond_b m_euclid_next_a m_euclid_next_b m_euclid_nextOfFirst_a m_euclid_nextOfFirst_b m_euclid_nextOfSecond_a m_euclid_nextOfSecond_b m_euclid_q_a m_euclid_q_b m_euclid_quotientA m_euclid_quotientB m_modulus_step m_modulus_width m_modulus_slant m_modulus_square_a m_modulus_square_b m_factors_count m_factors_threes m_factors_unit m_factors_primeA m_factors_primeB m_factors_norms m_factors_euclid_count m_factors_euclid_last_a m_factors_euclid_last_b m_factors_euclid_lastOfFirst_a m_factors_euclid_lastOfFirst_b m_factors_euclid_lastOfSecond_a m_factors_euclid_lastOfSecond_b m_factors_euclid_next_a m_factors_euclid_next_b m_factors_euclid_nextOfFirst_a m_factors_euclid_nextOfFirst_b m_factors_euclid_nextOfSecond_a m_factors_euclid_nextOfSecond_b m_factors_euclid_q_a m_factors_euclid_q_b m_factors_euclid_quotientA m_factors_euclid_quotientB m_factors_left_a m_factors_left_b m_factors_found_a m_factors_found_b m_factors_product_a m_factors_product_b m_primes_count m_primes_primeA m_primes_primeB m_primes_found_a m_primes_found_b m_rings_foundA m_rings_foundB m_rings_all m_rings_mostOfOneRow m_letters_count m_letters_bytes m_one_a m_one_b m_two_a m_two_b m_three_a m_three_b m_four_a m_four_b m_out_a m_out_b m_spare_a m_spare_b m_marks y8 hy8) rfl rfl [] rfl rfl rfl rfl rfl rfl (fun H locs X => ?_)
    refine x_if_ne 18 14 C dX10_thirdRoots_11 rfl rfl hf (fun hf => ?_) (fun hf => ?_)
    · refine x_iconst 19 C dX10_thirdRoots_18 (0 : Int32) kv_iconst_0 rfl ?_
      obtain rfl := Option.some.inj hf
      exact R _ _ _ _ X dX10_thirdRoots_19
    refine x_iconst 15 C dX10_thirdRoots_14 (3 : Int32) kv_iconst_3 rfl ?_
    refine x_goto 19 C dX10_thirdRoots_15 rfl ?_
    obtain rfl := Option.some.inj hf
    exact R _ _ _ _ X dX10_thirdRoots_19
  refine x_iconst 5 C dX10_thirdRoots_4 (1 : Int32) kv_iconst_1 rfl ?_
  obtain rfl := Option.some.inj hf
  exact R _ _ _ _ X dX10_thirdRoots_5
set_option maxHeartbeats 4000000 in
set_option maxRecDepth 100000 in
theorem w_X10_pointsOf_25 {E : KE} {A : Nat → Prop} {D : va_G} {T : KT} (h : Nat → Nat) (C : kx_C E cX10_pointsOf 5 (some .int) RX10 2 42 D T) (N : Nat) (x : Int32) (m_drawers_full m_drawers_kept : Int32) (m_drawers_partA m_drawers_partB m_drawers_keptA m_drawers_keptB m_drawers_keptFull : Nat → Int32) (m_tape_size m_tape_plain m_tape_omegas m_tape_end m_tape_place m_tape_plainTold m_tape_omegasTold : Int32) (m_tape_bytes : Nat → Int32) (m_euclid_count : Int32) (m_euclid_last_a m_euclid_last_b m_euclid_lastOfFirst_a m_euclid_lastOfFirst_b m_euclid_lastOfSecond_a m_euclid_lastOfSecond_b m_euclid_next_a m_euclid_next_b m_euclid_nextOfFirst_a m_euclid_nextOfFirst_b m_euclid_nextOfSecond_a m_euclid_nextOfSecond_b m_euclid_q_a m_euclid_q_b : Int64) (m_euclid_quotientA m_euclid_quotientB : Nat → Int64) (m_modulus_step m_modulus_width m_modulus_slant m_modulus_square_a m_modulus_square_b : Int64) (m_factors_count m_factors_threes m_factors_unit : Int32) (m_factors_primeA m_factors_primeB m_factors_norms : Nat → Int64) (m_factors_euclid_count : Int32) (m_factors_euclid_last_a m_factors_euclid_last_b m_factors_euclid_lastOfFirst_a m_factors_euclid_lastOfFirst_b m_factors_euclid_lastOfSecond_a m_factors_euclid_lastOfSecond_b m_factors_euclid_next_a m_factors_euclid_next_b m_factors_euclid_nextOfFirst_a m_factors_euclid_nextOfFirst_b m_factors_euclid_nextOfSecond_a m_factors_euclid_nextOfSecond_b m_factors_euclid_q_a m_factors_euclid_q_b : Int64) (m_factors_euclid_quotientA m_factors_euclid_quotientB : Nat → Int64) (m_factors_left_a m_factors_left_b m_factors_found_a m_factors_found_b m_factors_product_a m_factors_product_b : Int64) (m_primes_count : Int32) (m_primes_primeA m_primes_primeB : Nat → Int32) (m_primes_found_a m_primes_found_b : Int64) (m_rings_foundA m_rings_foundB m_rings_all m_rings_mostOfOneRow m_letters_count : Int32) (m_letters_bytes : Nat → Int32) (m_one_a m_one_b m_two_a m_two_b m_three_a m_three_b m_four_a m_four_b m_out_a m_out_b m_spare_a m_spare_b : Int64) (m_marks : Nat → Int32) (R : kx_RI E cX10_pointsOf D A (wC T h m_drawers_full m_drawers_kept m_drawers_partA m_drawers_partB m_drawers_keptA m_drawers_keptB m_drawers_keptFull m_tape_size m_tape_plain m_tape_omegas m_tape_end m_tape_place m_tape_plainTold m_tape_omegasTold m_tape_bytes m_euclid_count m_euclid_last_a m_euclid_last_b m_euclid_lastOfFirst_a m_euclid_lastOfFirst_b m_euclid_lastOfSecond_a m_euclid_lastOfSecond_b m_euclid_next_a m_euclid_next_b m_euclid_nextOfFirst_a m_euclid_nextOfFirst_b m_euclid_nextOfSecond_a m_euclid_nextOfSecond_b m_euclid_q_a m_euclid_q_b m_euclid_quotientA m_euclid_quotientB m_modulus_step m_modulus_width m_modulus_slant m_modulus_square_a m_modulus_square_b m_factors_count m_factors_threes m_factors_unit m_factors_primeA m_factors_primeB m_factors_norms m_factors_euclid_count m_factors_euclid_last_a m_factors_euclid_last_b m_factors_euclid_lastOfFirst_a m_factors_euclid_lastOfFirst_b m_factors_euclid_lastOfSecond_a m_factors_euclid_lastOfSecond_b m_factors_euclid_next_a m_factors_euclid_next_b m_factors_euclid_nextOfFirst_a m_factors_euclid_nextOfFirst_b m_factors_euclid_nextOfSecond_a m_factors_euclid_nextOfSecond_b m_factors_euclid_q_a m_factors_euclid_q_b m_factors_euclid_quotientA m_factors_euclid_quotientB m_factors_left_a m_factors_left_b m_factors_found_a m_factors_found_b m_factors_product_a m_factors_product_b m_primes_count m_primes_primeA m_primes_primeB m_primes_found_a m_primes_found_b m_rings_foundA m_rings_foundB m_rings_all m_rings_mostOfOneRow m_letters_count m_letters_bytes m_one_a m_one_b m_two_a m_two_b m_three_a m_three_b m_four_a m_four_b m_out_a m_out_b m_spare_a m_spare_b m_marks) x) (k4 : Int32 → Int32 → Int32 → (Nat → Int32) → Option (Int32)) (hk4 : ∀  (v1 v2 v3 : Int32) (H : Heap) (locs : List Loc) (ls : Array Slot), kx_H E D A H locs (wC T h m_drawers_full m_drawers_kept m_drawers_partA m_drawers_partB m_drawers_keptA m_drawers_keptB m_drawers_keptFull m_tape_size m_tape_plain m_tape_omegas m_tape_end m_tape_place m_tape_plainTold m_tape_omegasTold m_tape_bytes m_euclid_count m_euclid_last_a m_euclid_last_b m_euclid_lastOfFirst_a m_euclid_lastOfFirst_b m_euclid_lastOfSecond_a m_euclid_lastOfSecond_b m_euclid_next_a m_euclid_next_b m_euclid_nextOfFirst_a m_euclid_nextOfFirst_b m_euclid_nextOfSecond_a m_euclid_nextOfSecond_b m_euclid_q_a m_euclid_q_b m_euclid_quotientA m_euclid_quotientB m_modulus_step m_modulus_width m_modulus_slant m_modulus_square_a m_modulus_square_b m_factors_count m_factors_threes m_factors_unit m_factors_primeA m_factors_primeB m_factors_norms m_factors_euclid_count m_factors_euclid_last_a m_factors_euclid_last_b m_factors_euclid_lastOfFirst_a m_factors_euclid_lastOfFirst_b m_factors_euclid_lastOfSecond_a m_factors_euclid_lastOfSecond_b m_factors_euclid_next_a m_factors_euclid_next_b m_factors_euclid_nextOfFirst_a m_factors_euclid_nextOfFirst_b m_factors_euclid_nextOfSecond_a m_factors_euclid_nextOfSecond_b m_factors_euclid_q_a m_factors_euclid_q_b m_factors_euclid_quotientA m_factors_euclid_quotientB m_factors_left_a m_factors_left_b m_factors_found_a m_factors_found_b m_factors_product_a m_factors_product_b m_primes_count m_primes_primeA m_primes_primeB m_primes_found_a m_primes_found_b m_rings_foundA m_rings_foundB m_rings_all m_rings_mostOfOneRow m_letters_count m_letters_bytes m_one_a m_one_b m_two_a m_two_b m_three_a m_three_b m_four_a m_four_b m_out_a m_out_b m_spare_a m_spare_b m_marks) → lv_has ls 5 [(0, .ref (h 0)), (1, .int v1), (2, .int v2), (3, .int v3)] → k4 v1 v2 v3 m_marks = some x → kx_W E H locs 4 ls []) : ∀  (v1 v2 v3 s0 : Int32) (H : Heap) (locs : List Loc) (ls : Array Slot), kx_H E D A H locs (wC T h m_drawers_full m_drawers_kept m_drawers_partA m_drawers_partB m_drawers_keptA m_drawers_keptB m_drawers_keptFull m_tape_size m_tape_plain m_tape_omegas m_tape_end m_tape_place m_tape_plainTold m_tape_omegasTold m_tape_bytes m_euclid_count m_euclid_last_a m_euclid_last_b m_euclid_lastOfFirst_a m_euclid_lastOfFirst_b m_euclid_lastOfSecond_a m_euclid_lastOfSecond_b m_euclid_next_a m_euclid_next_b m_euclid_nextOfFirst_a m_euclid_nextOfFirst_b m_euclid_nextOfSecond_a m_euclid_nextOfSecond_b m_euclid_q_a m_euclid_q_b m_euclid_quotientA m_euclid_quotientB m_modulus_step m_modulus_width m_modulus_slant m_modulus_square_a m_modulus_square_b m_factors_count m_factors_threes m_factors_unit m_factors_primeA m_factors_primeB m_factors_norms m_factors_euclid_count m_factors_euclid_last_a m_factors_euclid_last_b m_factors_euclid_lastOfFirst_a m_factors_euclid_lastOfFirst_b m_factors_euclid_lastOfSecond_a m_factors_euclid_lastOfSecond_b m_factors_euclid_next_a m_factors_euclid_next_b m_factors_euclid_nextOfFirst_a m_factors_euclid_nextOfFirst_b m_factors_euclid_nextOfSecond_a m_factors_euclid_nextOfSecond_b m_factors_euclid_q_a m_factors_euclid_q_b m_factors_euclid_quotientA m_factors_euclid_quotientB m_factors_left_a m_factors_left_b m_factors_found_a m_factors_found_b m_factors_product_a m_factors_product_b m_primes_count m_primes_primeA m_primes_primeB m_primes_found_a m_primes_found_b m_rings_foundA m_rings_foundB m_rings_all m_rings_mostOfOneRow m_letters_count m_letters_bytes m_one_a m_one_b m_two_a m_two_b m_three_a m_three_b m_four_a m_four_b m_out_a m_out_b m_spare_a m_spare_b m_marks) → lv_has ls 5 [(0, .ref (h 0)), (1, .int v1), (2, .int v2), (3, .int v3)] → f_X10_pointsOf_25 N k4 v1 v2 v3 s0 m_marks = some x → kx_W E H locs 25 ls [.int s0] := by
  intro v1 v2 v3 s0 H locs ls X hl hf
  rw [f_X10_pointsOf_25] at hf
  refine x_istore 27 C dX10_pointsOf_25 [(4, .int s0), (0, .ref (h 0)), (1, .int v1), (2, .int v2), (3, .int v3)] hl rfl rfl rfl (fun ls hl => ?_)
  refine x_iload_n 28 C dX10_pointsOf_27 hl 3 rfl rfl ?_
  refine x_aload_n 29 C dX10_pointsOf_28 hl 1 rfl rfl ?_
  refine x_iload_n 30 C dX10_pointsOf_29 hl 4 rfl rfl ?_
  obtain ⟨y30, hy30, hf⟩ := kx_bind hf
  refine x_callVi0 33 C dX10_pointsOf_30 X hl kl_X10_414 (c_X10_thirdRoots E.2.1 D T h v3 m_drawers_full m_drawers_kept m_drawers_partA m_drawers_partB m_drawers_keptA m_drawers_keptB m_drawers_keptFull m_tape_size m_tape_plain m_tape_omegas m_tape_end m_tape_place m_tape_plainTold m_tape_omegasTold m_tape_bytes m_euclid_count m_euclid_last_a m_euclid_last_b m_euclid_lastOfFirst_a m_euclid_lastOfFirst_b m_euclid_lastOfSecond_a m_euclid_lastOfSecond_b m_euclid_next_a m_euclid_next_b m_euclid_nextOfFirst_a m_euclid_nextOfFirst_b m_euclid_nextOfSecond_a m_euclid_nextOfSecond_b m_euclid_q_a m_euclid_q_b m_euclid_quotientA m_euclid_quotientB m_modulus_step m_modulus_width m_modulus_slant m_modulus_square_a m_modulus_square_b m_factors_count m_factors_threes m_factors_unit m_factors_primeA m_factors_primeB m_factors_norms m_factors_euclid_count m_factors_euclid_last_a m_factors_euclid_last_b m_factors_euclid_lastOfFirst_a m_factors_euclid_lastOfFirst_b m_factors_euclid_lastOfSecond_a m_factors_euclid_lastOfSecond_b m_factors_euclid_next_a m_factors_euclid_next_b m_factors_euclid_nextOfFirst_a m_factors_euclid_nextOfFirst_b m_factors_euclid_nextOfSecond_a m_factors_euclid_nextOfSecond_b m_factors_euclid_q_a m_factors_euclid_q_b m_factors_euclid_quotientA m_factors_euclid_quotientB m_factors_left_a m_factors_left_b m_factors_found_a m_factors_found_b m_factors_product_a m_factors_product_b m_primes_count m_primes_primeA m_primes_primeB m_primes_found_a m_primes_found_b m_rings_foundA m_rings_foundB m_rings_all m_rings_mostOfOneRow m_letters_count m_letters_bytes m_one_a m_one_b m_two_a m_two_b m_three_a m_three_b m_four_a m_four_b m_out_a m_out_b m_spare_a m_spare_b m_marks y30 hy30) rfl rfl [.int v2] rfl rfl rfl rfl rfl rfl (fun H locs X => ?_)
  refine x_aload_n 34 C dX10_pointsOf_33 hl 1 rfl rfl ?_
  refine x_iload 36 C dX10_pointsOf_34 hl 0 rfl rfl ?_
  obtain ⟨y36, hy36, hf⟩ := kx_bind hf
  refine x_callVi0 39 C dX10_pointsOf_36 X hl kl_X10_414 (c_X10_thirdRoots E.2.1 D T h s0 m_drawers_full m_drawers_kept m_drawers_partA m_drawers_partB m_drawers_keptA m_drawers_keptB m_drawers_keptFull m_tape_size m_tape_plain m_tape_omegas m_tape_end m_tape_place m_tape_plainTold m_tape_omegasTold m_tape_bytes m_euclid_count m_euclid_last_a m_euclid_last_b m_euclid_lastOfFirst_a m_euclid_lastOfFirst_b m_euclid_lastOfSecond_a m_euclid_lastOfSecond_b m_euclid_next_a m_euclid_next_b m_euclid_nextOfFirst_a m_euclid_nextOfFirst_b m_euclid_nextOfSecond_a m_euclid_nextOfSecond_b m_euclid_q_a m_euclid_q_b m_euclid_quotientA m_euclid_quotientB m_modulus_step m_modulus_width m_modulus_slant m_modulus_square_a m_modulus_square_b m_factors_count m_factors_threes m_factors_unit m_factors_primeA m_factors_primeB m_factors_norms m_factors_euclid_count m_factors_euclid_last_a m_factors_euclid_last_b m_factors_euclid_lastOfFirst_a m_factors_euclid_lastOfFirst_b m_factors_euclid_lastOfSecond_a m_factors_euclid_lastOfSecond_b m_factors_euclid_next_a m_factors_euclid_next_b m_factors_euclid_nextOfFirst_a m_factors_euclid_nextOfFirst_b m_factors_euclid_nextOfSecond_a m_factors_euclid_nextOfSecond_b m_factors_euclid_q_a m_factors_euclid_q_b m_factors_euclid_quotientA m_factors_euclid_quotientB m_factors_left_a m_factors_left_b m_factors_found_a m_factors_found_b m_factors_product_a m_factors_product_b m_primes_count m_primes_primeA m_primes_primeB m_primes_found_a m_primes_found_b m_rings_foundA m_rings_foundB m_rings_all m_rings_mostOfOneRow m_letters_count m_letters_bytes m_one_a m_one_b m_two_a m_two_b m_three_a m_three_b m_four_a m_four_b m_out_a m_out_b m_spare_a m_spare_b m_marks y36 hy36) rfl rfl [.int y30, .int v2] rfl rfl rfl rfl rfl rfl (fun H locs X => ?_)
  refine x_imul 40 C dX10_pointsOf_39 rfl ?_
  refine x_iadd 41 C dX10_pointsOf_40 rfl ?_
  refine x_istore_n 42 C dX10_pointsOf_41 [(2, .int (v2 + (y30 * y36))), (4, .int s0), (0, .ref (h 0)), (1, .int v1), (3, .int v3)] hl rfl rfl rfl (fun ls hl => ?_)
  refine x_iinc 45 C dX10_pointsOf_42 (1 : Int32) kv_iconst_1 [(3, .int (v3 + (1 : Int32))), (2, .int (v2 + (y30 * y36))), (4, .int s0), (0, .ref (h 0)), (1, .int v1)] hl 4 rfl rfl rfl rfl (fun ls hl => ?_)
  refine x_goto 4 C dX10_pointsOf_45 rfl ?_
  exact hk4 v1 (v2 + (y30 * y36)) (v3 + (1 : Int32)) _ _ _ X (lv_sub hl [3, 4, 1, 0] rfl) hf
set_option maxHeartbeats 4000000 in
set_option maxRecDepth 100000 in
theorem w_X10_pointsOf_4 {E : KE} {A : Nat → Prop} {D : va_G} {T : KT} (h : Nat → Nat) (C : kx_C E cX10_pointsOf 5 (some .int) RX10 2 42 D T) (N : Nat) (x : Int32) (m_drawers_full m_drawers_kept : Int32) (m_drawers_partA m_drawers_partB m_drawers_keptA m_drawers_keptB m_drawers_keptFull : Nat → Int32) (m_tape_size m_tape_plain m_tape_omegas m_tape_end m_tape_place m_tape_plainTold m_tape_omegasTold : Int32) (m_tape_bytes : Nat → Int32) (m_euclid_count : Int32) (m_euclid_last_a m_euclid_last_b m_euclid_lastOfFirst_a m_euclid_lastOfFirst_b m_euclid_lastOfSecond_a m_euclid_lastOfSecond_b m_euclid_next_a m_euclid_next_b m_euclid_nextOfFirst_a m_euclid_nextOfFirst_b m_euclid_nextOfSecond_a m_euclid_nextOfSecond_b m_euclid_q_a m_euclid_q_b : Int64) (m_euclid_quotientA m_euclid_quotientB : Nat → Int64) (m_modulus_step m_modulus_width m_modulus_slant m_modulus_square_a m_modulus_square_b : Int64) (m_factors_count m_factors_threes m_factors_unit : Int32) (m_factors_primeA m_factors_primeB m_factors_norms : Nat → Int64) (m_factors_euclid_count : Int32) (m_factors_euclid_last_a m_factors_euclid_last_b m_factors_euclid_lastOfFirst_a m_factors_euclid_lastOfFirst_b m_factors_euclid_lastOfSecond_a m_factors_euclid_lastOfSecond_b m_factors_euclid_next_a m_factors_euclid_next_b m_factors_euclid_nextOfFirst_a m_factors_euclid_nextOfFirst_b m_factors_euclid_nextOfSecond_a m_factors_euclid_nextOfSecond_b m_factors_euclid_q_a m_factors_euclid_q_b : Int64) (m_factors_euclid_quotientA m_factors_euclid_quotientB : Nat → Int64) (m_factors_left_a m_factors_left_b m_factors_found_a m_factors_found_b m_factors_product_a m_factors_product_b : Int64) (m_primes_count : Int32) (m_primes_primeA m_primes_primeB : Nat → Int32) (m_primes_found_a m_primes_found_b : Int64) (m_rings_foundA m_rings_foundB m_rings_all m_rings_mostOfOneRow m_letters_count : Int32) (m_letters_bytes : Nat → Int32) (m_one_a m_one_b m_two_a m_two_b m_three_a m_three_b m_four_a m_four_b m_out_a m_out_b m_spare_a m_spare_b : Int64) (m_marks : Nat → Int32) (R : kx_RI E cX10_pointsOf D A (wC T h m_drawers_full m_drawers_kept m_drawers_partA m_drawers_partB m_drawers_keptA m_drawers_keptB m_drawers_keptFull m_tape_size m_tape_plain m_tape_omegas m_tape_end m_tape_place m_tape_plainTold m_tape_omegasTold m_tape_bytes m_euclid_count m_euclid_last_a m_euclid_last_b m_euclid_lastOfFirst_a m_euclid_lastOfFirst_b m_euclid_lastOfSecond_a m_euclid_lastOfSecond_b m_euclid_next_a m_euclid_next_b m_euclid_nextOfFirst_a m_euclid_nextOfFirst_b m_euclid_nextOfSecond_a m_euclid_nextOfSecond_b m_euclid_q_a m_euclid_q_b m_euclid_quotientA m_euclid_quotientB m_modulus_step m_modulus_width m_modulus_slant m_modulus_square_a m_modulus_square_b m_factors_count m_factors_threes m_factors_unit m_factors_primeA m_factors_primeB m_factors_norms m_factors_euclid_count m_factors_euclid_last_a m_factors_euclid_last_b m_factors_euclid_lastOfFirst_a m_factors_euclid_lastOfFirst_b m_factors_euclid_lastOfSecond_a m_factors_euclid_lastOfSecond_b m_factors_euclid_next_a m_factors_euclid_next_b m_factors_euclid_nextOfFirst_a m_factors_euclid_nextOfFirst_b m_factors_euclid_nextOfSecond_a m_factors_euclid_nextOfSecond_b m_factors_euclid_q_a m_factors_euclid_q_b m_factors_euclid_quotientA m_factors_euclid_quotientB m_factors_left_a m_factors_left_b m_factors_found_a m_factors_found_b m_factors_product_a m_factors_product_b m_primes_count m_primes_primeA m_primes_primeB m_primes_found_a m_primes_found_b m_rings_foundA m_rings_foundB m_rings_all m_rings_mostOfOneRow m_letters_count m_letters_bytes m_one_a m_one_b m_two_a m_two_b m_three_a m_three_b m_four_a m_four_b m_out_a m_out_b m_spare_a m_spare_b m_marks) x) : ∀ (k : Nat), ∀  (v1 v2 v3 : Int32) (H : Heap) (locs : List Loc) (ls : Array Slot), kx_H E D A H locs (wC T h m_drawers_full m_drawers_kept m_drawers_partA m_drawers_partB m_drawers_keptA m_drawers_keptB m_drawers_keptFull m_tape_size m_tape_plain m_tape_omegas m_tape_end m_tape_place m_tape_plainTold m_tape_omegasTold m_tape_bytes m_euclid_count m_euclid_last_a m_euclid_last_b m_euclid_lastOfFirst_a m_euclid_lastOfFirst_b m_euclid_lastOfSecond_a m_euclid_lastOfSecond_b m_euclid_next_a m_euclid_next_b m_euclid_nextOfFirst_a m_euclid_nextOfFirst_b m_euclid_nextOfSecond_a m_euclid_nextOfSecond_b m_euclid_q_a m_euclid_q_b m_euclid_quotientA m_euclid_quotientB m_modulus_step m_modulus_width m_modulus_slant m_modulus_square_a m_modulus_square_b m_factors_count m_factors_threes m_factors_unit m_factors_primeA m_factors_primeB m_factors_norms m_factors_euclid_count m_factors_euclid_last_a m_factors_euclid_last_b m_factors_euclid_lastOfFirst_a m_factors_euclid_lastOfFirst_b m_factors_euclid_lastOfSecond_a m_factors_euclid_lastOfSecond_b m_factors_euclid_next_a m_factors_euclid_next_b m_factors_euclid_nextOfFirst_a m_factors_euclid_nextOfFirst_b m_factors_euclid_nextOfSecond_a m_factors_euclid_nextOfSecond_b m_factors_euclid_q_a m_factors_euclid_q_b m_factors_euclid_quotientA m_factors_euclid_quotientB m_factors_left_a m_factors_left_b m_factors_found_a m_factors_found_b m_factors_product_a m_factors_product_b m_primes_count m_primes_primeA m_primes_primeB m_primes_found_a m_primes_found_b m_rings_foundA m_rings_foundB m_rings_all m_rings_mostOfOneRow m_letters_count m_letters_bytes m_one_a m_one_b m_two_a m_two_b m_three_a m_three_b m_four_a m_four_b m_out_a m_out_b m_spare_a m_spare_b m_marks) → lv_has ls 5 [(0, .ref (h 0)), (1, .int v1), (2, .int v2), (3, .int v3)] → f_X10_pointsOf_4 N k v1 v2 v3 m_marks = some x → kx_W E H locs 4 ls [] := by
  intro k
  induction k with
  | zero =>
    intro v1 v2 v3 H locs ls X hl hf
    cases (show (none : Option (Int32)) = some x from hf)
  | succ k ih =>
    intro v1 v2 v3 H locs ls X hl hf
    rw [f_X10_pointsOf_4] at hf
    refine x_iload_n 5 C dX10_pointsOf_4 hl 3 rfl rfl ?_
    refine x_iload_n 6 C dX10_pointsOf_5 hl 1 rfl rfl ?_
    refine x_icmp_ge 48 9 C dX10_pointsOf_6 rfl rfl hf (fun hf => ?_) (fun hf => ?_)
    · refine x_iload_n 49 C dX10_pointsOf_48 hl 2 rfl rfl ?_
      obtain rfl := Option.some.inj hf
      exact R _ _ _ _ X dX10_pointsOf_49
    refine x_iload_n 10 C dX10_pointsOf_9 hl 3 rfl rfl ?_
    refine x_iconst 11 C dX10_pointsOf_10 (1 : Int32) kv_iconst_1 rfl ?_
    refine x_icmp_gt 20 14 C dX10_pointsOf_11 rfl rfl hf (fun hf => ?_) (fun hf => ?_)
    · refine x_iload_n 21 C dX10_pointsOf_20 hl 1 rfl rfl ?_
      refine x_iconst 22 C dX10_pointsOf_21 (1 : Int32) kv_iconst_1 rfl ?_
      refine x_iadd 23 C dX10_pointsOf_22 rfl ?_
      refine x_iload_n 24 C dX10_pointsOf_23 hl 3 rfl rfl ?_
      refine x_isub 25 C dX10_pointsOf_24 rfl ?_
      exact w_X10_pointsOf_25 h C N x m_drawers_full m_drawers_kept m_drawers_partA m_drawers_partB m_drawers_keptA m_drawers_keptB m_drawers_keptFull m_tape_size m_tape_plain m_tape_omegas m_tape_end m_tape_place m_tape_plainTold m_tape_omegasTold m_tape_bytes m_euclid_count m_euclid_last_a m_euclid_last_b m_euclid_lastOfFirst_a m_euclid_lastOfFirst_b m_euclid_lastOfSecond_a m_euclid_lastOfSecond_b m_euclid_next_a m_euclid_next_b m_euclid_nextOfFirst_a m_euclid_nextOfFirst_b m_euclid_nextOfSecond_a m_euclid_nextOfSecond_b m_euclid_q_a m_euclid_q_b m_euclid_quotientA m_euclid_quotientB m_modulus_step m_modulus_width m_modulus_slant m_modulus_square_a m_modulus_square_b m_factors_count m_factors_threes m_factors_unit m_factors_primeA m_factors_primeB m_factors_norms m_factors_euclid_count m_factors_euclid_last_a m_factors_euclid_last_b m_factors_euclid_lastOfFirst_a m_factors_euclid_lastOfFirst_b m_factors_euclid_lastOfSecond_a m_factors_euclid_lastOfSecond_b m_factors_euclid_next_a m_factors_euclid_next_b m_factors_euclid_nextOfFirst_a m_factors_euclid_nextOfFirst_b m_factors_euclid_nextOfSecond_a m_factors_euclid_nextOfSecond_b m_factors_euclid_q_a m_factors_euclid_q_b m_factors_euclid_quotientA m_factors_euclid_quotientB m_factors_left_a m_factors_left_b m_factors_found_a m_factors_found_b m_factors_product_a m_factors_product_b m_primes_count m_primes_primeA m_primes_primeB m_primes_found_a m_primes_found_b m_rings_foundA m_rings_foundB m_rings_all m_rings_mostOfOneRow m_letters_count m_letters_bytes m_one_a m_one_b m_two_a m_two_b m_three_a m_three_b m_four_a m_four_b m_out_a m_out_b m_spare_a m_spare_b m_marks R (f_X10_pointsOf_4 N k) ih v1 v2 v3 ((v1 + (1 : Int32)) - v3) _ _ _ X (lv_sub hl [0, 1, 2, 3] rfl) hf
    refine x_iconst 15 C dX10_pointsOf_14 (1 : Int32) kv_iconst_1 rfl ?_
    refine x_iload_n 16 C dX10_pointsOf_15 hl 3 rfl rfl ?_
    refine x_isub 17 C dX10_pointsOf_16 rfl ?_
    refine x_goto 25 C dX10_pointsOf_17 rfl ?_
    exact w_X10_pointsOf_25 h C N x m_drawers_full m_drawers_kept m_drawers_partA m_drawers_partB m_drawers_keptA m_drawers_keptB m_drawers_keptFull m_tape_size m_tape_plain m_tape_omegas m_tape_end m_tape_place m_tape_plainTold m_tape_omegasTold m_tape_bytes m_euclid_count m_euclid_last_a m_euclid_last_b m_euclid_lastOfFirst_a m_euclid_lastOfFirst_b m_euclid_lastOfSecond_a m_euclid_lastOfSecond_b m_euclid_next_a m_euclid_next_b m_euclid_nextOfFirst_a m_euclid_nextOfFirst_b m_euclid_nextOfSecond_a m_euclid_nextOfSecond_b m_euclid_q_a m_euclid_q_b m_euclid_quotientA m_euclid_quotientB m_modulus_step m_modulus_width m_modulus_slant m_modulus_square_a m_modulus_square_b m_factors_count m_factors_threes m_factors_unit m_factors_primeA m_factors_primeB m_factors_norms m_factors_euclid_count m_factors_euclid_last_a m_factors_euclid_last_b m_factors_euclid_lastOfFirst_a m_factors_euclid_lastOfFirst_b m_factors_euclid_lastOfSecond_a m_factors_euclid_lastOfSecond_b m_factors_euclid_next_a m_factors_euclid_next_b m_factors_euclid_nextOfFirst_a m_factors_euclid_nextOfFirst_b m_factors_euclid_nextOfSecond_a m_factors_euclid_nextOfSecond_b m_factors_euclid_q_a m_factors_euclid_q_b m_factors_euclid_quotientA m_factors_euclid_quotientB m_factors_left_a m_factors_left_b m_factors_found_a m_factors_found_b m_factors_product_a m_factors_product_b m_primes_count m_primes_primeA m_primes_primeB m_primes_found_a m_primes_found_b m_rings_foundA m_rings_foundB m_rings_all m_rings_mostOfOneRow m_letters_count m_letters_bytes m_one_a m_one_b m_two_a m_two_b m_three_a m_three_b m_four_a m_four_b m_out_a m_out_b m_spare_a m_spare_b m_marks R (f_X10_pointsOf_4 N k) ih v1 v2 v3 ((1 : Int32) - v3) _ _ _ X (lv_sub hl [0, 1, 2, 3] rfl) hf
set_option maxHeartbeats 4000000 in
set_option maxRecDepth 100000 in
theorem c_X10_pointsOf (l : Launch) (D : va_G) (T : KT) (h : Nat → Nat) (N : Nat) (v1 : Int32) (m_drawers_full m_drawers_kept : Int32) (m_drawers_partA m_drawers_partB m_drawers_keptA m_drawers_keptB m_drawers_keptFull : Nat → Int32) (m_tape_size m_tape_plain m_tape_omegas m_tape_end m_tape_place m_tape_plainTold m_tape_omegasTold : Int32) (m_tape_bytes : Nat → Int32) (m_euclid_count : Int32) (m_euclid_last_a m_euclid_last_b m_euclid_lastOfFirst_a m_euclid_lastOfFirst_b m_euclid_lastOfSecond_a m_euclid_lastOfSecond_b m_euclid_next_a m_euclid_next_b m_euclid_nextOfFirst_a m_euclid_nextOfFirst_b m_euclid_nextOfSecond_a m_euclid_nextOfSecond_b m_euclid_q_a m_euclid_q_b : Int64) (m_euclid_quotientA m_euclid_quotientB : Nat → Int64) (m_modulus_step m_modulus_width m_modulus_slant m_modulus_square_a m_modulus_square_b : Int64) (m_factors_count m_factors_threes m_factors_unit : Int32) (m_factors_primeA m_factors_primeB m_factors_norms : Nat → Int64) (m_factors_euclid_count : Int32) (m_factors_euclid_last_a m_factors_euclid_last_b m_factors_euclid_lastOfFirst_a m_factors_euclid_lastOfFirst_b m_factors_euclid_lastOfSecond_a m_factors_euclid_lastOfSecond_b m_factors_euclid_next_a m_factors_euclid_next_b m_factors_euclid_nextOfFirst_a m_factors_euclid_nextOfFirst_b m_factors_euclid_nextOfSecond_a m_factors_euclid_nextOfSecond_b m_factors_euclid_q_a m_factors_euclid_q_b : Int64) (m_factors_euclid_quotientA m_factors_euclid_quotientB : Nat → Int64) (m_factors_left_a m_factors_left_b m_factors_found_a m_factors_found_b m_factors_product_a m_factors_product_b : Int64) (m_primes_count : Int32) (m_primes_primeA m_primes_primeB : Nat → Int32) (m_primes_found_a m_primes_found_b : Int64) (m_rings_foundA m_rings_foundB m_rings_all m_rings_mostOfOneRow m_letters_count : Int32) (m_letters_bytes : Nat → Int32) (m_one_a m_one_b m_two_a m_two_b m_three_a m_three_b m_four_a m_four_b m_out_a m_out_b m_spare_a m_spare_b : Int64) (m_marks : Nat → Int32) (x : Int32) (hf : f_X10_pointsOf N v1 m_marks = some x) : kx_MI l yX10_pointsOf cX10_pointsOf 5 (some .int) 2 42 D T [.ref (h 0), .int v1] (wC T h m_drawers_full m_drawers_kept m_drawers_partA m_drawers_partB m_drawers_keptA m_drawers_keptB m_drawers_keptFull m_tape_size m_tape_plain m_tape_omegas m_tape_end m_tape_place m_tape_plainTold m_tape_omegasTold m_tape_bytes m_euclid_count m_euclid_last_a m_euclid_last_b m_euclid_lastOfFirst_a m_euclid_lastOfFirst_b m_euclid_lastOfSecond_a m_euclid_lastOfSecond_b m_euclid_next_a m_euclid_next_b m_euclid_nextOfFirst_a m_euclid_nextOfFirst_b m_euclid_nextOfSecond_a m_euclid_nextOfSecond_b m_euclid_q_a m_euclid_q_b m_euclid_quotientA m_euclid_quotientB m_modulus_step m_modulus_width m_modulus_slant m_modulus_square_a m_modulus_square_b m_factors_count m_factors_threes m_factors_unit m_factors_primeA m_factors_primeB m_factors_norms m_factors_euclid_count m_factors_euclid_last_a m_factors_euclid_last_b m_factors_euclid_lastOfFirst_a m_factors_euclid_lastOfFirst_b m_factors_euclid_lastOfSecond_a m_factors_euclid_lastOfSecond_b m_factors_euclid_next_a m_factors_euclid_next_b m_factors_euclid_nextOfFirst_a m_factors_euclid_nextOfFirst_b m_factors_euclid_nextOfSecond_a m_factors_euclid_nextOfSecond_b m_factors_euclid_q_a m_factors_euclid_q_b m_factors_euclid_quotientA m_factors_euclid_quotientB m_factors_left_a m_factors_left_b m_factors_found_a m_factors_found_b m_factors_product_a m_factors_product_b m_primes_count m_primes_primeA m_primes_primeB m_primes_found_a m_primes_found_b m_rings_foundA m_rings_foundB m_rings_all m_rings_mostOfOneRow m_letters_count m_letters_bytes m_one_a m_one_b m_two_a m_two_b m_three_a m_three_b m_four_a m_four_b m_out_a m_out_b m_spare_a m_spare_b m_marks) (wC T h m_drawers_full m_drawers_kept m_drawers_partA m_drawers_partB m_drawers_keptA m_drawers_keptB m_drawers_keptFull m_tape_size m_tape_plain m_tape_omegas m_tape_end m_tape_place m_tape_plainTold m_tape_omegasTold m_tape_bytes m_euclid_count m_euclid_last_a m_euclid_last_b m_euclid_lastOfFirst_a m_euclid_lastOfFirst_b m_euclid_lastOfSecond_a m_euclid_lastOfSecond_b m_euclid_next_a m_euclid_next_b m_euclid_nextOfFirst_a m_euclid_nextOfFirst_b m_euclid_nextOfSecond_a m_euclid_nextOfSecond_b m_euclid_q_a m_euclid_q_b m_euclid_quotientA m_euclid_quotientB m_modulus_step m_modulus_width m_modulus_slant m_modulus_square_a m_modulus_square_b m_factors_count m_factors_threes m_factors_unit m_factors_primeA m_factors_primeB m_factors_norms m_factors_euclid_count m_factors_euclid_last_a m_factors_euclid_last_b m_factors_euclid_lastOfFirst_a m_factors_euclid_lastOfFirst_b m_factors_euclid_lastOfSecond_a m_factors_euclid_lastOfSecond_b m_factors_euclid_next_a m_factors_euclid_next_b m_factors_euclid_nextOfFirst_a m_factors_euclid_nextOfFirst_b m_factors_euclid_nextOfSecond_a m_factors_euclid_nextOfSecond_b m_factors_euclid_q_a m_factors_euclid_q_b m_factors_euclid_quotientA m_factors_euclid_quotientB m_factors_left_a m_factors_left_b m_factors_found_a m_factors_found_b m_factors_product_a m_factors_product_b m_primes_count m_primes_primeA m_primes_primeB m_primes_found_a m_primes_found_b m_rings_foundA m_rings_foundB m_rings_all m_rings_mostOfOneRow m_letters_count m_letters_bytes m_one_a m_one_b m_two_a m_two_b m_three_a m_three_b m_four_a m_four_b m_out_a m_out_b m_spare_a m_spare_b m_marks) x := by
  refine kx_ofMI RX10 rfl (plainFor_of_name (x := yX10_pointsOf) kpn_X10) rfl ?_
  intro E A H ls _ C X R hl
  have hl : lv_has ls 5 [(0, .ref (h 0)), (1, .int v1)] := hl
  rw [f_X10_pointsOf] at hf
  refine x_iconst 1 C dX10_pointsOf_0 (0 : Int32) kv_iconst_0 rfl ?_
  refine x_istore_n 2 C dX10_pointsOf_1 [(2, .int (0 : Int32)), (0, .ref (h 0)), (1, .int v1)] hl rfl rfl rfl (fun ls hl => ?_)
  refine x_iconst 3 C dX10_pointsOf_2 (0 : Int32) kv_iconst_0 rfl ?_
  refine x_istore_n 4 C dX10_pointsOf_3 [(3, .int (0 : Int32)), (2, .int (0 : Int32)), (0, .ref (h 0)), (1, .int v1)] hl rfl rfl rfl (fun ls hl => ?_)
  exact w_X10_pointsOf_4 h C N x m_drawers_full m_drawers_kept m_drawers_partA m_drawers_partB m_drawers_keptA m_drawers_keptB m_drawers_keptFull m_tape_size m_tape_plain m_tape_omegas m_tape_end m_tape_place m_tape_plainTold m_tape_omegasTold m_tape_bytes m_euclid_count m_euclid_last_a m_euclid_last_b m_euclid_lastOfFirst_a m_euclid_lastOfFirst_b m_euclid_lastOfSecond_a m_euclid_lastOfSecond_b m_euclid_next_a m_euclid_next_b m_euclid_nextOfFirst_a m_euclid_nextOfFirst_b m_euclid_nextOfSecond_a m_euclid_nextOfSecond_b m_euclid_q_a m_euclid_q_b m_euclid_quotientA m_euclid_quotientB m_modulus_step m_modulus_width m_modulus_slant m_modulus_square_a m_modulus_square_b m_factors_count m_factors_threes m_factors_unit m_factors_primeA m_factors_primeB m_factors_norms m_factors_euclid_count m_factors_euclid_last_a m_factors_euclid_last_b m_factors_euclid_lastOfFirst_a m_factors_euclid_lastOfFirst_b m_factors_euclid_lastOfSecond_a m_factors_euclid_lastOfSecond_b m_factors_euclid_next_a m_factors_euclid_next_b m_factors_euclid_nextOfFirst_a m_factors_euclid_nextOfFirst_b m_factors_euclid_nextOfSecond_a m_factors_euclid_nextOfSecond_b m_factors_euclid_q_a m_factors_euclid_q_b m_factors_euclid_quotientA m_factors_euclid_quotientB m_factors_left_a m_factors_left_b m_factors_found_a m_factors_found_b m_factors_product_a m_factors_product_b m_primes_count m_primes_primeA m_primes_primeB m_primes_found_a m_primes_found_b m_rings_foundA m_rings_foundB m_rings_all m_rings_mostOfOneRow m_letters_count m_letters_bytes m_one_a m_one_b m_two_a m_two_b m_three_a m_three_b m_four_a m_four_b m_out_a m_out_b m_spare_a m_spare_b m_marks R  N v1 (0 : Int32) (0 : Int32) _ _ _ X (lv_sub hl [2, 3, 1, 0] rfl) hf
set_option maxHeartbeats 4000000 in
set_option maxRecDepth 100000 in
theorem w_X10_sum_51 {E : KE} {A : Nat → Prop} {D : va_G} {T : KT} (h : Nat → Nat) (C : kx_C E cX10_sum 5 (some .int) RX10 5 139 D T) (N : Nat) (x : Int32 × Int64 × Int64 × Int64 × Int64 × Int64 × Int64 × Int64 × Int64 × Int64 × Int64 × Int64 × Int64 × Int64 × Int64 × Int64 × (Nat → Int32)) (m_drawers_full m_drawers_kept : Int32) (m_drawers_partA m_drawers_partB m_drawers_keptA m_drawers_keptB m_drawers_keptFull : Nat → Int32) (m_tape_size m_tape_plain m_tape_omegas m_tape_end m_tape_place m_tape_plainTold m_tape_omegasTold : Int32) (m_tape_bytes : Nat → Int32) (m_euclid_count : Int32) (m_euclid_last_a m_euclid_last_b m_euclid_lastOfFirst_a m_euclid_lastOfFirst_b m_euclid_lastOfSecond_a m_euclid_lastOfSecond_b m_euclid_next_a m_euclid_next_b m_euclid_nextOfFirst_a m_euclid_nextOfFirst_b m_euclid_nextOfSecond_a m_euclid_nextOfSecond_b m_euclid_q_a m_euclid_q_b : Int64) (m_euclid_quotientA m_euclid_quotientB : Nat → Int64) (m_factors_count m_factors_threes m_factors_unit : Int32) (m_factors_primeA m_factors_primeB m_factors_norms : Nat → Int64) (m_factors_euclid_count : Int32) (m_factors_euclid_last_a m_factors_euclid_last_b m_factors_euclid_lastOfFirst_a m_factors_euclid_lastOfFirst_b m_factors_euclid_lastOfSecond_a m_factors_euclid_lastOfSecond_b m_factors_euclid_next_a m_factors_euclid_next_b m_factors_euclid_nextOfFirst_a m_factors_euclid_nextOfFirst_b m_factors_euclid_nextOfSecond_a m_factors_euclid_nextOfSecond_b m_factors_euclid_q_a m_factors_euclid_q_b : Int64) (m_factors_euclid_quotientA m_factors_euclid_quotientB : Nat → Int64) (m_factors_left_a m_factors_left_b m_factors_found_a m_factors_found_b m_factors_product_a m_factors_product_b : Int64) (m_primes_count : Int32) (m_primes_primeA m_primes_primeB : Nat → Int32) (m_primes_found_a m_primes_found_b : Int64) (m_rings_foundA m_rings_foundB m_rings_all m_rings_mostOfOneRow m_letters_count : Int32) (m_letters_bytes : Nat → Int32) (m_three_a m_three_b : Int64) (R : kx_RI E cX10_sum D A (wC T h m_drawers_full m_drawers_kept m_drawers_partA m_drawers_partB m_drawers_keptA m_drawers_keptB m_drawers_keptFull m_tape_size m_tape_plain m_tape_omegas m_tape_end m_tape_place m_tape_plainTold m_tape_omegasTold m_tape_bytes m_euclid_count m_euclid_last_a m_euclid_last_b m_euclid_lastOfFirst_a m_euclid_lastOfFirst_b m_euclid_lastOfSecond_a m_euclid_lastOfSecond_b m_euclid_next_a m_euclid_next_b m_euclid_nextOfFirst_a m_euclid_nextOfFirst_b m_euclid_nextOfSecond_a m_euclid_nextOfSecond_b m_euclid_q_a m_euclid_q_b m_euclid_quotientA m_euclid_quotientB x.2.1 x.2.2.1 x.2.2.2.1 x.2.2.2.2.1 x.2.2.2.2.2.1 m_factors_count m_factors_threes m_factors_unit m_factors_primeA m_factors_primeB m_factors_norms m_factors_euclid_count m_factors_euclid_last_a m_factors_euclid_last_b m_factors_euclid_lastOfFirst_a m_factors_euclid_lastOfFirst_b m_factors_euclid_lastOfSecond_a m_factors_euclid_lastOfSecond_b m_factors_euclid_next_a m_factors_euclid_next_b m_factors_euclid_nextOfFirst_a m_factors_euclid_nextOfFirst_b m_factors_euclid_nextOfSecond_a m_factors_euclid_nextOfSecond_b m_factors_euclid_q_a m_factors_euclid_q_b m_factors_euclid_quotientA m_factors_euclid_quotientB m_factors_left_a m_factors_left_b m_factors_found_a m_factors_found_b m_factors_product_a m_factors_product_b m_primes_count m_primes_primeA m_primes_primeB m_primes_found_a m_primes_found_b m_rings_foundA m_rings_foundB m_rings_all m_rings_mostOfOneRow m_letters_count m_letters_bytes x.2.2.2.2.2.2.1 x.2.2.2.2.2.2.2.1 x.2.2.2.2.2.2.2.2.1 x.2.2.2.2.2.2.2.2.2.1 m_three_a m_three_b x.2.2.2.2.2.2.2.2.2.2.1 x.2.2.2.2.2.2.2.2.2.2.2.1 x.2.2.2.2.2.2.2.2.2.2.2.2.1 x.2.2.2.2.2.2.2.2.2.2.2.2.2.1 x.2.2.2.2.2.2.2.2.2.2.2.2.2.2.1 x.2.2.2.2.2.2.2.2.2.2.2.2.2.2.2.1 x.2.2.2.2.2.2.2.2.2.2.2.2.2.2.2.2) x.1) : ∀ (k : Nat), ∀ (m_modulus_step m_modulus_width m_modulus_slant m_modulus_square_a m_modulus_square_b m_one_a m_one_b m_two_a m_two_b m_four_a m_four_b m_out_a m_out_b m_spare_a m_spare_b : Int64) (m_marks : Nat → Int32) (v1 v2 v3 : Int32) (H : Heap) (locs : List Loc) (ls : Array Slot), kx_H E D A H locs (wC T h m_drawers_full m_drawers_kept m_drawers_partA m_drawers_partB m_drawers_keptA m_drawers_keptB m_drawers_keptFull m_tape_size m_tape_plain m_tape_omegas m_tape_end m_tape_place m_tape_plainTold m_tape_omegasTold m_tape_bytes m_euclid_count m_euclid_last_a m_euclid_last_b m_euclid_lastOfFirst_a m_euclid_lastOfFirst_b m_euclid_lastOfSecond_a m_euclid_lastOfSecond_b m_euclid_next_a m_euclid_next_b m_euclid_nextOfFirst_a m_euclid_nextOfFirst_b m_euclid_nextOfSecond_a m_euclid_nextOfSecond_b m_euclid_q_a m_euclid_q_b m_euclid_quotientA m_euclid_quotientB m_modulus_step m_modulus_width m_modulus_slant m_modulus_square_a m_modulus_square_b m_factors_count m_factors_threes m_factors_unit m_factors_primeA m_factors_primeB m_factors_norms m_factors_euclid_count m_factors_euclid_last_a m_factors_euclid_last_b m_factors_euclid_lastOfFirst_a m_factors_euclid_lastOfFirst_b m_factors_euclid_lastOfSecond_a m_factors_euclid_lastOfSecond_b m_factors_euclid_next_a m_factors_euclid_next_b m_factors_euclid_nextOfFirst_a m_factors_euclid_nextOfFirst_b m_factors_euclid_nextOfSecond_a m_factors_euclid_nextOfSecond_b m_factors_euclid_q_a m_factors_euclid_q_b m_factors_euclid_quotientA m_factors_euclid_quotientB m_factors_left_a m_factors_left_b m_factors_found_a m_factors_found_b m_factors_product_a m_factors_product_b m_primes_count m_primes_primeA m_primes_primeB m_primes_found_a m_primes_found_b m_rings_foundA m_rings_foundB m_rings_all m_rings_mostOfOneRow m_letters_count m_letters_bytes m_one_a m_one_b m_two_a m_two_b m_three_a m_three_b m_four_a m_four_b m_out_a m_out_b m_spare_a m_spare_b m_marks) → lv_has ls 5 [(0, .ref (h 0)), (1, .int v1), (2, .int v2), (3, .int v3)] → f_X10_sum_51 N k v1 v2 v3 m_modulus_step m_modulus_width m_modulus_slant m_modulus_square_a m_modulus_square_b m_one_a m_one_b m_two_a m_two_b m_four_a m_four_b m_out_a m_out_b m_spare_a m_spare_b m_marks = some x → kx_W E H locs 51 ls [] := by
  intro k
  induction k with
  | zero =>
    intro m_modulus_step m_modulus_width m_modulus_slant m_modulus_square_a m_modulus_square_b m_one_a m_one_b m_two_a m_two_b m_four_a m_four_b m_out_a m_out_b m_spare_a m_spare_b m_marks v1 v2 v3 H locs ls X hl hf
    cases (show (none : Option (Int32 × Int64 × Int64 × Int64 × Int64 × Int64 × Int64 × Int64 × Int64 × Int64 × Int64 × Int64 × Int64 × Int64 × Int64 × Int64 × (Nat → Int32))) = some x from hf)
  | succ k ih =>
    intro m_modulus_step m_modulus_width m_modulus_slant m_modulus_square_a m_modulus_square_b m_one_a m_one_b m_two_a m_two_b m_four_a m_four_b m_out_a m_out_b m_spare_a m_spare_b m_marks v1 v2 v3 H locs ls X hl hf
    rw [f_X10_sum_51] at hf
    refine x_iload_n 52 C dX10_sum_51 hl 3 rfl rfl ?_
    refine x_iload_n 53 C dX10_sum_52 hl 1 rfl rfl ?_
    refine x_icmp_ge 112 56 C dX10_sum_53 rfl rfl hf (fun hf => ?_) (fun hf => ?_)
    · refine x_aload_n 113 C dX10_sum_112 hl 0 rfl rfl ?_
      refine x_get 116 C dX10_sum_113 X kf_X10_83 0 rfl rfl rfl ?_
      refine x_iload_n 117 C dX10_sum_116 hl 2 rfl rfl ?_
      obtain ⟨y117, hy117, hf⟩ := kx_bind hf
      refine x_callSi 120 C dX10_sum_117 X hl kl_X10_241 (c_X10_partOrNorm E.2.1 D T (h 49) v2 m_out_a m_out_b y117 hy117) [] rfl rfl rfl rfl rfl cb_73 rfl (fun H locs X => ?_)
      obtain rfl := Option.some.inj hf
      exact R _ _ _ _ X dX10_sum_120
    refine x_aload_n 57 C dX10_sum_56 hl 0 rfl rfl ?_
    refine x_iload_n 58 C dX10_sum_57 hl 3 rfl rfl ?_
    obtain ⟨y58, hy58, hf⟩ := kx_bind hf
    refine x_callVi0 61 C dX10_sum_58 X hl kl_X10_324 (c_X10_markAt E.2.1 D T h v3 m_drawers_full m_drawers_kept m_drawers_partA m_drawers_partB m_drawers_keptA m_drawers_keptB m_drawers_keptFull m_tape_size m_tape_plain m_tape_omegas m_tape_end m_tape_place m_tape_plainTold m_tape_omegasTold m_tape_bytes m_euclid_count m_euclid_last_a m_euclid_last_b m_euclid_lastOfFirst_a m_euclid_lastOfFirst_b m_euclid_lastOfSecond_a m_euclid_lastOfSecond_b m_euclid_next_a m_euclid_next_b m_euclid_nextOfFirst_a m_euclid_nextOfFirst_b m_euclid_nextOfSecond_a m_euclid_nextOfSecond_b m_euclid_q_a m_euclid_q_b m_euclid_quotientA m_euclid_quotientB m_modulus_step m_modulus_width m_modulus_slant m_modulus_square_a m_modulus_square_b m_factors_count m_factors_threes m_factors_unit m_factors_primeA m_factors_primeB m_factors_norms m_factors_euclid_count m_factors_euclid_last_a m_factors_euclid_last_b m_factors_euclid_lastOfFirst_a m_factors_euclid_lastOfFirst_b m_factors_euclid_lastOfSecond_a m_factors_euclid_lastOfSecond_b m_factors_euclid_next_a m_factors_euclid_next_b m_factors_euclid_nextOfFirst_a m_factors_euclid_nextOfFirst_b m_factors_euclid_nextOfSecond_a m_factors_euclid_nextOfSecond_b m_factors_euclid_q_a m_factors_euclid_q_b m_factors_euclid_quotientA m_factors_euclid_quotientB m_factors_left_a m_factors_left_b m_factors_found_a m_factors_found_b m_factors_product_a m_factors_product_b m_primes_count m_primes_primeA m_primes_primeB m_primes_found_a m_primes_found_b m_rings_foundA m_rings_foundB m_rings_all m_rings_mostOfOneRow m_letters_count m_letters_bytes m_one_a m_one_b m_two_a m_two_b m_three_a m_three_b m_four_a m_four_b m_out_a m_out_b m_spare_a m_spare_b m_marks y58 hy58) rfl rfl [] rfl rfl rfl rfl rfl rfl (fun H locs X => ?_)
    refine x_aload_n 62 C dX10_sum_61 hl 0 rfl rfl ?_
    refine x_iload_n 63 C dX10_sum_62 hl 1 rfl rfl ?_
    refine x_iconst 64 C dX10_sum_63 (1 : Int32) kv_iconst_1 rfl ?_
    refine x_iadd 65 C dX10_sum_64 rfl ?_
    refine x_iload_n 66 C dX10_sum_65 hl 3 rfl rfl ?_
    refine x_isub 67 C dX10_sum_66 rfl ?_
    obtain ⟨y67, hy67, hf⟩ := kx_bind hf
    refine x_callVi0 70 C dX10_sum_67 X hl kl_X10_324 (c_X10_markAt E.2.1 D T h ((v1 + (1 : Int32)) - v3) m_drawers_full m_drawers_kept m_drawers_partA m_drawers_partB m_drawers_keptA m_drawers_keptB m_drawers_keptFull m_tape_size m_tape_plain m_tape_omegas m_tape_end m_tape_place m_tape_plainTold m_tape_omegasTold m_tape_bytes m_euclid_count m_euclid_last_a m_euclid_last_b m_euclid_lastOfFirst_a m_euclid_lastOfFirst_b m_euclid_lastOfSecond_a m_euclid_lastOfSecond_b m_euclid_next_a m_euclid_next_b m_euclid_nextOfFirst_a m_euclid_nextOfFirst_b m_euclid_nextOfSecond_a m_euclid_nextOfSecond_b m_euclid_q_a m_euclid_q_b m_euclid_quotientA m_euclid_quotientB m_modulus_step m_modulus_width m_modulus_slant m_modulus_square_a m_modulus_square_b m_factors_count m_factors_threes m_factors_unit m_factors_primeA m_factors_primeB m_factors_norms m_factors_euclid_count m_factors_euclid_last_a m_factors_euclid_last_b m_factors_euclid_lastOfFirst_a m_factors_euclid_lastOfFirst_b m_factors_euclid_lastOfSecond_a m_factors_euclid_lastOfSecond_b m_factors_euclid_next_a m_factors_euclid_next_b m_factors_euclid_nextOfFirst_a m_factors_euclid_nextOfFirst_b m_factors_euclid_nextOfSecond_a m_factors_euclid_nextOfSecond_b m_factors_euclid_q_a m_factors_euclid_q_b m_factors_euclid_quotientA m_factors_euclid_quotientB m_factors_left_a m_factors_left_b m_factors_found_a m_factors_found_b m_factors_product_a m_factors_product_b m_primes_count m_primes_primeA m_primes_primeB m_primes_found_a m_primes_found_b m_rings_foundA m_rings_foundB m_rings_all m_rings_mostOfOneRow m_letters_count m_letters_bytes m_one_a m_one_b m_two_a m_two_b m_three_a m_three_b m_four_a m_four_b m_out_a m_out_b m_spare_a m_spare_b m_marks y67 hy67) rfl rfl [.int y58] rfl rfl rfl rfl rfl rfl (fun H locs X => ?_)
    refine x_iadd 71 C dX10_sum_70 rfl ?_
    refine x_iconst 72 C dX10_sum_71 (3 : Int32) kv_iconst_3 rfl ?_
    refine x_irem0 73 C dX10_sum_72 kz_i_3 rfl ?_
    refine x_istore 75 C dX10_sum_73 [(4, .int ((y58 + y67) - (y58 + y67) / (3 : Int32) * (3 : Int32))), (0, .ref (h 0)), (1, .int v1), (2, .int v2), (3, .int v3)] hl rfl rfl rfl (fun ls hl => ?_)
    refine x_aload_n 76 C dX10_sum_75 hl 1 rfl rfl ?_
    refine x_get 79 C dX10_sum_76 X kf_X10_86 0 rfl rfl rfl ?_
    refine x_lconst 80 C dX10_sum_79 (1 : Int64) kv_lconst_1 rfl ?_
    refine x_lconst 81 C dX10_sum_80 (0 : Int64) kv_lconst_0 rfl ?_
    obtain ⟨y81, hy81, hf⟩ := kx_bind hf
    refine x_callVv 84 C dX10_sum_81 X hl kl_X10_122 (c_X5_set E.2.1 D T (h 50) (1 : Int64) (0 : Int64) m_spare_a m_spare_b y81 hy81) rfl rfl [] rfl rfl rfl rfl rfl cb_8 rfl (fun H locs X => ?_)
    refine x_aload_n 85 C dX10_sum_84 hl 1 rfl rfl ?_
    refine x_get 88 C dX10_sum_85 X kf_X10_86 0 rfl rfl rfl ?_
    refine x_iconst 89 C dX10_sum_88 (2 : Int32) kv_iconst_2 rfl ?_
    refine x_iload 91 C dX10_sum_89 hl 0 rfl rfl ?_
    refine x_imul 92 C dX10_sum_91 rfl ?_
    obtain ⟨y92, hy92, hf⟩ := kx_bind hf
    refine x_callVv 95 C dX10_sum_92 X hl kl_X10_215 (c_X5_multiplyByUnit E.2.1 D T (h 50) N ((2 : Int32) * ((y58 + y67) - (y58 + y67) / (3 : Int32) * (3 : Int32))) y81.1 y81.2 y92 hy92) rfl rfl [] rfl rfl rfl rfl rfl cb_8 rfl (fun H locs X => ?_)
    refine x_aload_n 96 C dX10_sum_95 hl 1 rfl rfl ?_
    refine x_get 99 C dX10_sum_96 X kf_X10_83 0 rfl rfl rfl ?_
    refine x_aload_n 100 C dX10_sum_99 hl 1 rfl rfl ?_
    refine x_get 103 C dX10_sum_100 X kf_X10_86 0 rfl rfl rfl ?_
    obtain ⟨y103, hy103, hf⟩ := kx_bind hf
    refine x_callVv 106 C dX10_sum_103 X hl kl_X10_190 (c_X5_add E.2.1 D T (h 49) (h 50)  m_out_a m_out_b y92.1 y92.2 y103 hy103) rfl rfl [] rfl rfl rfl rfl rfl cb_61 rfl (fun H locs X => ?_)
    refine x_iinc 109 C dX10_sum_106 (1 : Int32) kv_iconst_1 [(3, .int (v3 + (1 : Int32))), (4, .int ((y58 + y67) - (y58 + y67) / (3 : Int32) * (3 : Int32))), (0, .ref (h 0)), (1, .int v1), (2, .int v2)] hl 4 rfl rfl rfl rfl (fun ls hl => ?_)
    refine x_goto 51 C dX10_sum_109 rfl ?_
    exact ih m_modulus_step m_modulus_width m_modulus_slant m_modulus_square_a m_modulus_square_b m_one_a m_one_b m_two_a m_two_b m_four_a m_four_b y103.1 y103.2 y92.1 y92.2 m_marks v1 v2 (v3 + (1 : Int32)) _ _ _ X (lv_sub hl [2, 3, 4, 0] rfl) hf
set_option maxHeartbeats 4000000 in
set_option maxRecDepth 100000 in
theorem c_X10_sum (l : Launch) (D : va_G) (T : KT) (h : Nat → Nat) (N : Nat) (v1 v2 : Int32) (m_drawers_full m_drawers_kept : Int32) (m_drawers_partA m_drawers_partB m_drawers_keptA m_drawers_keptB m_drawers_keptFull : Nat → Int32) (m_tape_size m_tape_plain m_tape_omegas m_tape_end m_tape_place m_tape_plainTold m_tape_omegasTold : Int32) (m_tape_bytes : Nat → Int32) (m_euclid_count : Int32) (m_euclid_last_a m_euclid_last_b m_euclid_lastOfFirst_a m_euclid_lastOfFirst_b m_euclid_lastOfSecond_a m_euclid_lastOfSecond_b m_euclid_next_a m_euclid_next_b m_euclid_nextOfFirst_a m_euclid_nextOfFirst_b m_euclid_nextOfSecond_a m_euclid_nextOfSecond_b m_euclid_q_a m_euclid_q_b : Int64) (m_euclid_quotientA m_euclid_quotientB : Nat → Int64) (m_modulus_step m_modulus_width m_modulus_slant m_modulus_square_a m_modulus_square_b : Int64) (m_factors_count m_factors_threes m_factors_unit : Int32) (m_factors_primeA m_factors_primeB m_factors_norms : Nat → Int64) (m_factors_euclid_count : Int32) (m_factors_euclid_last_a m_factors_euclid_last_b m_factors_euclid_lastOfFirst_a m_factors_euclid_lastOfFirst_b m_factors_euclid_lastOfSecond_a m_factors_euclid_lastOfSecond_b m_factors_euclid_next_a m_factors_euclid_next_b m_factors_euclid_nextOfFirst_a m_factors_euclid_nextOfFirst_b m_factors_euclid_nextOfSecond_a m_factors_euclid_nextOfSecond_b m_factors_euclid_q_a m_factors_euclid_q_b : Int64) (m_factors_euclid_quotientA m_factors_euclid_quotientB : Nat → Int64) (m_factors_left_a m_factors_left_b m_factors_found_a m_factors_found_b m_factors_product_a m_factors_product_b : Int64) (m_primes_count : Int32) (m_primes_primeA m_primes_primeB : Nat → Int32) (m_primes_found_a m_primes_found_b : Int64) (m_rings_foundA m_rings_foundB m_rings_all m_rings_mostOfOneRow m_letters_count : Int32) (m_letters_bytes : Nat → Int32) (m_one_a m_one_b m_two_a m_two_b m_three_a m_three_b m_four_a m_four_b m_out_a m_out_b m_spare_a m_spare_b : Int64) (m_marks : Nat → Int32) (x : Int32 × Int64 × Int64 × Int64 × Int64 × Int64 × Int64 × Int64 × Int64 × Int64 × Int64 × Int64 × Int64 × Int64 × Int64 × Int64 × (Nat → Int32)) (hf : f_X10_sum N v1 v2 m_modulus_step m_modulus_width m_modulus_slant m_modulus_square_a m_modulus_square_b m_one_a m_one_b m_two_a m_two_b m_four_a m_four_b m_out_a m_out_b m_spare_a m_spare_b m_marks = some x) : kx_MI l yX10_sum cX10_sum 5 (some .int) 5 139 D T [.ref (h 0), .int v1, .int v2] (wC T h m_drawers_full m_drawers_kept m_drawers_partA m_drawers_partB m_drawers_keptA m_drawers_keptB m_drawers_keptFull m_tape_size m_tape_plain m_tape_omegas m_tape_end m_tape_place m_tape_plainTold m_tape_omegasTold m_tape_bytes m_euclid_count m_euclid_last_a m_euclid_last_b m_euclid_lastOfFirst_a m_euclid_lastOfFirst_b m_euclid_lastOfSecond_a m_euclid_lastOfSecond_b m_euclid_next_a m_euclid_next_b m_euclid_nextOfFirst_a m_euclid_nextOfFirst_b m_euclid_nextOfSecond_a m_euclid_nextOfSecond_b m_euclid_q_a m_euclid_q_b m_euclid_quotientA m_euclid_quotientB m_modulus_step m_modulus_width m_modulus_slant m_modulus_square_a m_modulus_square_b m_factors_count m_factors_threes m_factors_unit m_factors_primeA m_factors_primeB m_factors_norms m_factors_euclid_count m_factors_euclid_last_a m_factors_euclid_last_b m_factors_euclid_lastOfFirst_a m_factors_euclid_lastOfFirst_b m_factors_euclid_lastOfSecond_a m_factors_euclid_lastOfSecond_b m_factors_euclid_next_a m_factors_euclid_next_b m_factors_euclid_nextOfFirst_a m_factors_euclid_nextOfFirst_b m_factors_euclid_nextOfSecond_a m_factors_euclid_nextOfSecond_b m_factors_euclid_q_a m_factors_euclid_q_b m_factors_euclid_quotientA m_factors_euclid_quotientB m_factors_left_a m_factors_left_b m_factors_found_a m_factors_found_b m_factors_product_a m_factors_product_b m_primes_count m_primes_primeA m_primes_primeB m_primes_found_a m_primes_found_b m_rings_foundA m_rings_foundB m_rings_all m_rings_mostOfOneRow m_letters_count m_letters_bytes m_one_a m_one_b m_two_a m_two_b m_three_a m_three_b m_four_a m_four_b m_out_a m_out_b m_spare_a m_spare_b m_marks) (wC T h m_drawers_full m_drawers_kept m_drawers_partA m_drawers_partB m_drawers_keptA m_drawers_keptB m_drawers_keptFull m_tape_size m_tape_plain m_tape_omegas m_tape_end m_tape_place m_tape_plainTold m_tape_omegasTold m_tape_bytes m_euclid_count m_euclid_last_a m_euclid_last_b m_euclid_lastOfFirst_a m_euclid_lastOfFirst_b m_euclid_lastOfSecond_a m_euclid_lastOfSecond_b m_euclid_next_a m_euclid_next_b m_euclid_nextOfFirst_a m_euclid_nextOfFirst_b m_euclid_nextOfSecond_a m_euclid_nextOfSecond_b m_euclid_q_a m_euclid_q_b m_euclid_quotientA m_euclid_quotientB x.2.1 x.2.2.1 x.2.2.2.1 x.2.2.2.2.1 x.2.2.2.2.2.1 m_factors_count m_factors_threes m_factors_unit m_factors_primeA m_factors_primeB m_factors_norms m_factors_euclid_count m_factors_euclid_last_a m_factors_euclid_last_b m_factors_euclid_lastOfFirst_a m_factors_euclid_lastOfFirst_b m_factors_euclid_lastOfSecond_a m_factors_euclid_lastOfSecond_b m_factors_euclid_next_a m_factors_euclid_next_b m_factors_euclid_nextOfFirst_a m_factors_euclid_nextOfFirst_b m_factors_euclid_nextOfSecond_a m_factors_euclid_nextOfSecond_b m_factors_euclid_q_a m_factors_euclid_q_b m_factors_euclid_quotientA m_factors_euclid_quotientB m_factors_left_a m_factors_left_b m_factors_found_a m_factors_found_b m_factors_product_a m_factors_product_b m_primes_count m_primes_primeA m_primes_primeB m_primes_found_a m_primes_found_b m_rings_foundA m_rings_foundB m_rings_all m_rings_mostOfOneRow m_letters_count m_letters_bytes x.2.2.2.2.2.2.1 x.2.2.2.2.2.2.2.1 x.2.2.2.2.2.2.2.2.1 x.2.2.2.2.2.2.2.2.2.1 m_three_a m_three_b x.2.2.2.2.2.2.2.2.2.2.1 x.2.2.2.2.2.2.2.2.2.2.2.1 x.2.2.2.2.2.2.2.2.2.2.2.2.1 x.2.2.2.2.2.2.2.2.2.2.2.2.2.1 x.2.2.2.2.2.2.2.2.2.2.2.2.2.2.1 x.2.2.2.2.2.2.2.2.2.2.2.2.2.2.2.1 x.2.2.2.2.2.2.2.2.2.2.2.2.2.2.2.2) x.1 := by
  refine kx_ofMI RX10 rfl (plainFor_of_name (x := yX10_sum) kpn_X10) rfl ?_
  intro E A H ls _ C X R hl
  have hl : lv_has ls 5 [(0, .ref (h 0)), (1, .int v1), (2, .int v2)] := hl
  rw [f_X10_sum] at hf
  refine x_iload_n 1 C dX10_sum_0 hl 1 rfl rfl ?_
  obtain ⟨y1, hy1, hf⟩ := kx_bind hf
  refine x_callSi 4 C dX10_sum_1 X hl kl_X10_392 (c_X6_isThird E.2.1 D T  N v1  y1 hy1) [] rfl rfl rfl rfl rfl cb_2 rfl (fun H locs X => ?_)
  refine x_if_eq 16 7 C dX10_sum_4 rfl rfl hf (fun hf => ?_) (fun hf => ?_)
  · refine x_ldc 18 C dX10_sum_16 (-2147483648 : Int32) kc_X10_140 rfl ?_
    obtain rfl := Option.some.inj hf
    exact R _ _ _ _ X dX10_sum_18
  refine x_iload_n 8 C dX10_sum_7 hl 2 rfl rfl ?_
  refine x_if_lt 16 11 C dX10_sum_8 rfl rfl hf (fun hf => ?_) (fun hf => ?_)
  · refine x_ldc 18 C dX10_sum_16 (-2147483648 : Int32) kc_X10_140 rfl ?_
    obtain rfl := Option.some.inj hf
    exact R _ _ _ _ X dX10_sum_18
  refine x_iload_n 12 C dX10_sum_11 hl 2 rfl rfl ?_
  refine x_iconst 13 C dX10_sum_12 (3 : Int32) kv_iconst_3 rfl ?_
  refine x_icmp_le 19 16 C dX10_sum_13 rfl rfl hf (fun hf => ?_) (fun hf => ?_)
  · refine x_iload_n 20 C dX10_sum_19 hl 2 rfl rfl ?_
    refine x_iconst 21 C dX10_sum_20 (3 : Int32) kv_iconst_3 rfl ?_
    refine x_icmp_ne 35 24 C dX10_sum_21 rfl rfl hf (fun hf => ?_) (fun hf => ?_)
    · refine x_aload_n 36 C dX10_sum_35 hl 0 rfl rfl ?_
      refine x_iload_n 37 C dX10_sum_36 hl 1 rfl rfl ?_
      obtain ⟨y37, hy37, hf⟩ := kx_bind hf
      refine x_callVv0 40 C dX10_sum_37 X hl kl_X10_411 (c_X10_markSigns E.2.1 D T h N v1 m_drawers_full m_drawers_kept m_drawers_partA m_drawers_partB m_drawers_keptA m_drawers_keptB m_drawers_keptFull m_tape_size m_tape_plain m_tape_omegas m_tape_end m_tape_place m_tape_plainTold m_tape_omegasTold m_tape_bytes m_euclid_count m_euclid_last_a m_euclid_last_b m_euclid_lastOfFirst_a m_euclid_lastOfFirst_b m_euclid_lastOfSecond_a m_euclid_lastOfSecond_b m_euclid_next_a m_euclid_next_b m_euclid_nextOfFirst_a m_euclid_nextOfFirst_b m_euclid_nextOfSecond_a m_euclid_nextOfSecond_b m_euclid_q_a m_euclid_q_b m_euclid_quotientA m_euclid_quotientB m_modulus_step m_modulus_width m_modulus_slant m_modulus_square_a m_modulus_square_b m_factors_count m_factors_threes m_factors_unit m_factors_primeA m_factors_primeB m_factors_norms m_factors_euclid_count m_factors_euclid_last_a m_factors_euclid_last_b m_factors_euclid_lastOfFirst_a m_factors_euclid_lastOfFirst_b m_factors_euclid_lastOfSecond_a m_factors_euclid_lastOfSecond_b m_factors_euclid_next_a m_factors_euclid_next_b m_factors_euclid_nextOfFirst_a m_factors_euclid_nextOfFirst_b m_factors_euclid_nextOfSecond_a m_factors_euclid_nextOfSecond_b m_factors_euclid_q_a m_factors_euclid_q_b m_factors_euclid_quotientA m_factors_euclid_quotientB m_factors_left_a m_factors_left_b m_factors_found_a m_factors_found_b m_factors_product_a m_factors_product_b m_primes_count m_primes_primeA m_primes_primeB m_primes_found_a m_primes_found_b m_rings_foundA m_rings_foundB m_rings_all m_rings_mostOfOneRow m_letters_count m_letters_bytes m_one_a m_one_b m_two_a m_two_b m_three_a m_three_b m_four_a m_four_b m_out_a m_out_b m_spare_a m_spare_b m_marks y37 hy37) rfl rfl [] rfl rfl rfl rfl rfl rfl (fun H locs X => ?_)
      refine x_aload_n 41 C dX10_sum_40 hl 0 rfl rfl ?_
      refine x_get 44 C dX10_sum_41 X kf_X10_83 0 rfl rfl rfl ?_
      refine x_lconst 45 C dX10_sum_44 (0 : Int64) kv_lconst_0 rfl ?_
      refine x_lconst 46 C dX10_sum_45 (0 : Int64) kv_lconst_0 rfl ?_
      obtain ⟨y46, hy46, hf⟩ := kx_bind hf
      refine x_callVv 49 C dX10_sum_46 X hl kl_X10_122 (c_X5_set E.2.1 D T (h 49) (0 : Int64) (0 : Int64) y37.2.2.2.2.2.2.2.2.2.2.2.1 y37.2.2.2.2.2.2.2.2.2.2.2.2.1 y46 hy46) rfl rfl [] rfl rfl rfl rfl rfl cb_64 rfl (fun H locs X => ?_)
      refine x_iconst 50 C dX10_sum_49 (2 : Int32) kv_iconst_2 rfl ?_
      refine x_istore_n 51 C dX10_sum_50 [(3, .int (2 : Int32)), (0, .ref (h 0)), (1, .int v1), (2, .int v2)] hl rfl rfl rfl (fun ls hl => ?_)
      exact w_X10_sum_51 h C N x m_drawers_full m_drawers_kept m_drawers_partA m_drawers_partB m_drawers_keptA m_drawers_keptB m_drawers_keptFull m_tape_size m_tape_plain m_tape_omegas m_tape_end m_tape_place m_tape_plainTold m_tape_omegasTold m_tape_bytes m_euclid_count m_euclid_last_a m_euclid_last_b m_euclid_lastOfFirst_a m_euclid_lastOfFirst_b m_euclid_lastOfSecond_a m_euclid_lastOfSecond_b m_euclid_next_a m_euclid_next_b m_euclid_nextOfFirst_a m_euclid_nextOfFirst_b m_euclid_nextOfSecond_a m_euclid_nextOfSecond_b m_euclid_q_a m_euclid_q_b m_euclid_quotientA m_euclid_quotientB m_factors_count m_factors_threes m_factors_unit m_factors_primeA m_factors_primeB m_factors_norms m_factors_euclid_count m_factors_euclid_last_a m_factors_euclid_last_b m_factors_euclid_lastOfFirst_a m_factors_euclid_lastOfFirst_b m_factors_euclid_lastOfSecond_a m_factors_euclid_lastOfSecond_b m_factors_euclid_next_a m_factors_euclid_next_b m_factors_euclid_nextOfFirst_a m_factors_euclid_nextOfFirst_b m_factors_euclid_nextOfSecond_a m_factors_euclid_nextOfSecond_b m_factors_euclid_q_a m_factors_euclid_q_b m_factors_euclid_quotientA m_factors_euclid_quotientB m_factors_left_a m_factors_left_b m_factors_found_a m_factors_found_b m_factors_product_a m_factors_product_b m_primes_count m_primes_primeA m_primes_primeB m_primes_found_a m_primes_found_b m_rings_foundA m_rings_foundB m_rings_all m_rings_mostOfOneRow m_letters_count m_letters_bytes m_three_a m_three_b R  N y37.1 y37.2.1 y37.2.2.1 y37.2.2.2.1 y37.2.2.2.2.1 y37.2.2.2.2.2.1 y37.2.2.2.2.2.2.1 y37.2.2.2.2.2.2.2.1 y37.2.2.2.2.2.2.2.2.1 y37.2.2.2.2.2.2.2.2.2.1 y37.2.2.2.2.2.2.2.2.2.2.1 y46.1 y46.2 m_spare_a m_spare_b y37.2.2.2.2.2.2.2.2.2.2.2.2.2 v1 v2 (2 : Int32) _ _ _ X (lv_sub hl [1, 2, 3, 0] rfl) hf
    refine x_aload_n 25 C dX10_sum_24 hl 0 rfl rfl ?_
    refine x_iload_n 26 C dX10_sum_25 hl 1 rfl rfl ?_
    obtain ⟨y26, hy26, hf⟩ := kx_bind hf
    refine x_callVv0 29 C dX10_sum_26 X hl kl_X10_398 (c_X10_markCubes E.2.1 D T h N v1 m_drawers_full m_drawers_kept m_drawers_partA m_drawers_partB m_drawers_keptA m_drawers_keptB m_drawers_keptFull m_tape_size m_tape_plain m_tape_omegas m_tape_end m_tape_place m_tape_plainTold m_tape_omegasTold m_tape_bytes m_euclid_count m_euclid_last_a m_euclid_last_b m_euclid_lastOfFirst_a m_euclid_lastOfFirst_b m_euclid_lastOfSecond_a m_euclid_lastOfSecond_b m_euclid_next_a m_euclid_next_b m_euclid_nextOfFirst_a m_euclid_nextOfFirst_b m_euclid_nextOfSecond_a m_euclid_nextOfSecond_b m_euclid_q_a m_euclid_q_b m_euclid_quotientA m_euclid_quotientB m_modulus_step m_modulus_width m_modulus_slant m_modulus_square_a m_modulus_square_b m_factors_count m_factors_threes m_factors_unit m_factors_primeA m_factors_primeB m_factors_norms m_factors_euclid_count m_factors_euclid_last_a m_factors_euclid_last_b m_factors_euclid_lastOfFirst_a m_factors_euclid_lastOfFirst_b m_factors_euclid_lastOfSecond_a m_factors_euclid_lastOfSecond_b m_factors_euclid_next_a m_factors_euclid_next_b m_factors_euclid_nextOfFirst_a m_factors_euclid_nextOfFirst_b m_factors_euclid_nextOfSecond_a m_factors_euclid_nextOfSecond_b m_factors_euclid_q_a m_factors_euclid_q_b m_factors_euclid_quotientA m_factors_euclid_quotientB m_factors_left_a m_factors_left_b m_factors_found_a m_factors_found_b m_factors_product_a m_factors_product_b m_primes_count m_primes_primeA m_primes_primeB m_primes_found_a m_primes_found_b m_rings_foundA m_rings_foundB m_rings_all m_rings_mostOfOneRow m_letters_count m_letters_bytes m_one_a m_one_b m_two_a m_two_b m_three_a m_three_b m_four_a m_four_b m_out_a m_out_b m_spare_a m_spare_b m_marks y26 hy26) rfl rfl [] rfl rfl rfl rfl rfl rfl (fun H locs X => ?_)
    refine x_aload_n 30 C dX10_sum_29 hl 0 rfl rfl ?_
    refine x_iload_n 31 C dX10_sum_30 hl 1 rfl rfl ?_
    obtain ⟨y31, hy31, hf⟩ := kx_bind hf
    refine x_callVi0 34 C dX10_sum_31 X hl kl_X10_408 (c_X10_pointsOf E.2.1 D T h N v1 m_drawers_full m_drawers_kept m_drawers_partA m_drawers_partB m_drawers_keptA m_drawers_keptB m_drawers_keptFull m_tape_size m_tape_plain m_tape_omegas m_tape_end m_tape_place m_tape_plainTold m_tape_omegasTold m_tape_bytes m_euclid_count m_euclid_last_a m_euclid_last_b m_euclid_lastOfFirst_a m_euclid_lastOfFirst_b m_euclid_lastOfSecond_a m_euclid_lastOfSecond_b m_euclid_next_a m_euclid_next_b m_euclid_nextOfFirst_a m_euclid_nextOfFirst_b m_euclid_nextOfSecond_a m_euclid_nextOfSecond_b m_euclid_q_a m_euclid_q_b m_euclid_quotientA m_euclid_quotientB m_modulus_step m_modulus_width m_modulus_slant m_modulus_square_a m_modulus_square_b m_factors_count m_factors_threes m_factors_unit m_factors_primeA m_factors_primeB m_factors_norms m_factors_euclid_count m_factors_euclid_last_a m_factors_euclid_last_b m_factors_euclid_lastOfFirst_a m_factors_euclid_lastOfFirst_b m_factors_euclid_lastOfSecond_a m_factors_euclid_lastOfSecond_b m_factors_euclid_next_a m_factors_euclid_next_b m_factors_euclid_nextOfFirst_a m_factors_euclid_nextOfFirst_b m_factors_euclid_nextOfSecond_a m_factors_euclid_nextOfSecond_b m_factors_euclid_q_a m_factors_euclid_q_b m_factors_euclid_quotientA m_factors_euclid_quotientB m_factors_left_a m_factors_left_b m_factors_found_a m_factors_found_b m_factors_product_a m_factors_product_b m_primes_count m_primes_primeA m_primes_primeB m_primes_found_a m_primes_found_b m_rings_foundA m_rings_foundB m_rings_all m_rings_mostOfOneRow m_letters_count m_letters_bytes m_one_a m_one_b m_two_a m_two_b m_three_a m_three_b m_four_a m_four_b m_out_a m_out_b m_spare_a m_spare_b y26 y31 hy31) rfl rfl [] rfl rfl rfl rfl rfl rfl (fun H locs X => ?_)
    obtain rfl := Option.some.inj hf
    exact R _ _ _ _ X dX10_sum_34
  refine x_ldc 18 C dX10_sum_16 (-2147483648 : Int32) kc_X10_140 rfl ?_
  obtain rfl := Option.some.inj hf
  exact R _ _ _ _ X dX10_sum_18
set_option maxHeartbeats 4000000 in
set_option maxRecDepth 100000 in
theorem w_X11_laysSigns_46 {E : KE} {A : Nat → Prop} {D : va_G} {T : KT} (h : Nat → Nat) (C : kx_C E cX11_laysSigns 7 none RX11 3 72 D T) (N : Nat) (x : Int64 × Int64 × (Nat → Int32)) (m_taped m_states m_threes m_primes m_ones m_unit : Int32) (m_allParts m_allNorms m_allClasses : Int64) (m_odd : Int32) (m_boxWide m_boxHigh m_boxStep : Int64) (m_partingMany : Int32) (m_qa m_qb m_la m_lb m_sa m_sb m_ta m_tb : Int64) (m_listed m_tells m_wanted m_found : Int32) (m_bits : Int64) (m_power2 m_rings m_ringA m_ringB m_seedNow : Int32) (m_tape m_has m_keptHas m_first m_second m_keptFirst m_keptSecond m_pa m_pb m_pNorm m_cubed m_isOpen m_often m_la0 m_lb0 : Nat → Int32) (R : kx_RV E cX11_laysSigns D A (wM T h m_taped m_states x.1 x.2.1 m_threes m_primes m_ones m_unit m_allParts m_allNorms m_allClasses m_odd m_boxWide m_boxHigh m_boxStep m_partingMany m_qa m_qb m_la m_lb m_sa m_sb m_ta m_tb m_listed m_tells m_wanted m_found m_bits m_power2 m_rings m_ringA m_ringB m_seedNow m_tape m_has m_keptHas m_first m_second m_keptFirst m_keptSecond m_pa m_pb m_pNorm m_cubed m_isOpen x.2.2 m_often m_la0 m_lb0)) : ∀ (k : Nat), ∀ (m_ra m_rb : Int64) (m_signs : Nat → Int32) (v1 v4 v5 : Int32) (H : Heap) (locs : List Loc) (ls : Array Slot), kx_H E D A H locs (wM T h m_taped m_states m_ra m_rb m_threes m_primes m_ones m_unit m_allParts m_allNorms m_allClasses m_odd m_boxWide m_boxHigh m_boxStep m_partingMany m_qa m_qb m_la m_lb m_sa m_sb m_ta m_tb m_listed m_tells m_wanted m_found m_bits m_power2 m_rings m_ringA m_ringB m_seedNow m_tape m_has m_keptHas m_first m_second m_keptFirst m_keptSecond m_pa m_pb m_pNorm m_cubed m_isOpen m_signs m_often m_la0 m_lb0) → lv_has ls 7 [(0, .ref (h 0)), (1, .int v1), (4, .int v4), (5, .int v5)] → f_X11_laysSigns_46 N k v1 v4 v5 m_ra m_rb m_signs = some x → kx_W E H locs 46 ls [] := by
  intro k
  induction k with
  | zero =>
    intro m_ra m_rb m_signs v1 v4 v5 H locs ls X hl hf
    cases (show (none : Option (Int64 × Int64 × (Nat → Int32))) = some x from hf)
  | succ k ih =>
    intro m_ra m_rb m_signs v1 v4 v5 H locs ls X hl hf
    rw [f_X11_laysSigns_46] at hf
    refine x_iload 48 C dX11_laysSigns_46 hl 3 rfl rfl ?_
    refine x_iload_n 49 C dX11_laysSigns_48 hl 1 rfl rfl ?_
    refine x_icmp_ge 100 52 C dX11_laysSigns_49 rfl rfl hf (fun hf => ?_) (fun hf => ?_)
    · obtain rfl := Option.some.inj hf
      exact R _ _ _ _ X dX11_laysSigns_100
    refine x_iload 54 C dX11_laysSigns_52 hl 3 rfl rfl ?_
    refine x_iload_n 55 C dX11_laysSigns_54 hl 1 rfl rfl ?_
    refine x_iconst 56 C dX11_laysSigns_55 (1 : Int32) kv_iconst_1 rfl ?_
    refine x_isub 57 C dX11_laysSigns_56 rfl ?_
    refine x_iconst 58 C dX11_laysSigns_57 (3 : Int32) kv_iconst_3 rfl ?_
    refine x_idiv0 59 C dX11_laysSigns_58 kz_i_3 rfl ?_
    refine x_iload_n 60 C dX11_laysSigns_59 hl 1 rfl rfl ?_
    obtain ⟨y60, hy60, hf⟩ := kx_bind hf
    refine x_callSi 63 C dX11_laysSigns_60 X hl kl_X11_371 (c_X11_powerBy E.2.1 D T  N v5 ((v1 - (1 : Int32)) / (3 : Int32)) v1  y60 hy60) [] rfl rfl rfl rfl rfl cb_7 rfl (fun H locs X => ?_)
    refine x_istore 65 C dX11_laysSigns_63 [(6, .int y60), (0, .ref (h 0)), (1, .int v1), (4, .int v4), (5, .int v5)] hl rfl rfl rfl (fun ls hl => ?_)
    refine x_aload_n 66 C dX11_laysSigns_65 hl 1 rfl rfl ?_
    refine x_get 69 C dX11_laysSigns_66 X kf_X11_48 0 rfl rfl rfl ?_
    refine x_iload 71 C dX11_laysSigns_69 hl 4 rfl rfl ?_
    refine x_iload 73 C dX11_laysSigns_71 hl 0 rfl rfl ?_
    refine x_iconst 74 C dX11_laysSigns_73 (1 : Int32) kv_iconst_1 rfl ?_
    refine x_icmp_ne 81 77 C dX11_laysSigns_74 rfl rfl hf (fun hf => ?_) (fun hf => ?_)
    · refine x_iload 83 C dX11_laysSigns_81 hl 0 rfl rfl ?_
      refine x_iload 85 C dX11_laysSigns_83 hl 3 rfl rfl ?_
      refine x_icmp_ne 92 88 C dX11_laysSigns_85 rfl rfl hf (fun hf => ?_) (fun hf => ?_)
      · refine x_iconst 93 C dX11_laysSigns_92 (2 : Int32) kv_iconst_2 rfl ?_
        refine x_iast 94 C dX11_laysSigns_93 X 13 rfl (wM T h m_taped m_states m_ra m_rb m_threes m_primes m_ones m_unit m_allParts m_allNorms m_allClasses m_odd m_boxWide m_boxHigh m_boxStep m_partingMany m_qa m_qb m_la m_lb m_sa m_sb m_ta m_tb m_listed m_tells m_wanted m_found m_bits m_power2 m_rings m_ringA m_ringB m_seedNow m_tape m_has m_keptHas m_first m_second m_keptFirst m_keptSecond m_pa m_pb m_pNorm m_cubed m_isOpen (upd m_signs (v5).toNatClampNeg (2 : Int32)) m_often m_la0 m_lb0) rfl hf rfl (fun H locs X hf => ?_)
        refine x_iinc 97 C dX11_laysSigns_94 (1 : Int32) kv_iconst_1 [(5, .int (v5 + (1 : Int32))), (6, .int y60), (0, .ref (h 0)), (1, .int v1), (4, .int v4)] hl 4 rfl rfl rfl rfl (fun ls hl => ?_)
        refine x_goto 46 C dX11_laysSigns_97 rfl ?_
        exact ih m_ra m_rb (upd m_signs (v5).toNatClampNeg (2 : Int32)) v1 v4 (v5 + (1 : Int32)) _ _ _ X (lv_sub hl [2, 3, 4, 0] rfl) hf
      refine x_iconst 89 C dX11_laysSigns_88 (1 : Int32) kv_iconst_1 rfl ?_
      refine x_goto 93 C dX11_laysSigns_89 rfl ?_
      refine x_iast 94 C dX11_laysSigns_93 X 13 rfl (wM T h m_taped m_states m_ra m_rb m_threes m_primes m_ones m_unit m_allParts m_allNorms m_allClasses m_odd m_boxWide m_boxHigh m_boxStep m_partingMany m_qa m_qb m_la m_lb m_sa m_sb m_ta m_tb m_listed m_tells m_wanted m_found m_bits m_power2 m_rings m_ringA m_ringB m_seedNow m_tape m_has m_keptHas m_first m_second m_keptFirst m_keptSecond m_pa m_pb m_pNorm m_cubed m_isOpen (upd m_signs (v5).toNatClampNeg (1 : Int32)) m_often m_la0 m_lb0) rfl hf rfl (fun H locs X hf => ?_)
      refine x_iinc 97 C dX11_laysSigns_94 (1 : Int32) kv_iconst_1 [(5, .int (v5 + (1 : Int32))), (6, .int y60), (0, .ref (h 0)), (1, .int v1), (4, .int v4)] hl 4 rfl rfl rfl rfl (fun ls hl => ?_)
      refine x_goto 46 C dX11_laysSigns_97 rfl ?_
      exact ih m_ra m_rb (upd m_signs (v5).toNatClampNeg (1 : Int32)) v1 v4 (v5 + (1 : Int32)) _ _ _ X (lv_sub hl [2, 3, 4, 0] rfl) hf
    refine x_iconst 78 C dX11_laysSigns_77 (0 : Int32) kv_iconst_0 rfl ?_
    refine x_goto 93 C dX11_laysSigns_78 rfl ?_
    refine x_iast 94 C dX11_laysSigns_93 X 13 rfl (wM T h m_taped m_states m_ra m_rb m_threes m_primes m_ones m_unit m_allParts m_allNorms m_allClasses m_odd m_boxWide m_boxHigh m_boxStep m_partingMany m_qa m_qb m_la m_lb m_sa m_sb m_ta m_tb m_listed m_tells m_wanted m_found m_bits m_power2 m_rings m_ringA m_ringB m_seedNow m_tape m_has m_keptHas m_first m_second m_keptFirst m_keptSecond m_pa m_pb m_pNorm m_cubed m_isOpen (upd m_signs (v5).toNatClampNeg (0 : Int32)) m_often m_la0 m_lb0) rfl hf rfl (fun H locs X hf => ?_)
    refine x_iinc 97 C dX11_laysSigns_94 (1 : Int32) kv_iconst_1 [(5, .int (v5 + (1 : Int32))), (6, .int y60), (0, .ref (h 0)), (1, .int v1), (4, .int v4)] hl 4 rfl rfl rfl rfl (fun ls hl => ?_)
    refine x_goto 46 C dX11_laysSigns_97 rfl ?_
    exact ih m_ra m_rb (upd m_signs (v5).toNatClampNeg (0 : Int32)) v1 v4 (v5 + (1 : Int32)) _ _ _ X (lv_sub hl [2, 3, 4, 0] rfl) hf
set_option maxHeartbeats 4000000 in
set_option maxRecDepth 100000 in
theorem c_X11_laysSigns (l : Launch) (D : va_G) (T : KT) (h : Nat → Nat) (N : Nat) (v1 : Int32) (m_taped m_states : Int32) (m_ra m_rb : Int64) (m_threes m_primes m_ones m_unit : Int32) (m_allParts m_allNorms m_allClasses : Int64) (m_odd : Int32) (m_boxWide m_boxHigh m_boxStep : Int64) (m_partingMany : Int32) (m_qa m_qb m_la m_lb m_sa m_sb m_ta m_tb : Int64) (m_listed m_tells m_wanted m_found : Int32) (m_bits : Int64) (m_power2 m_rings m_ringA m_ringB m_seedNow : Int32) (m_tape m_has m_keptHas m_first m_second m_keptFirst m_keptSecond m_pa m_pb m_pNorm m_cubed m_isOpen m_signs m_often m_la0 m_lb0 : Nat → Int32) (x : Int64 × Int64 × (Nat → Int32)) (hf : f_X11_laysSigns N v1 m_signs = some x) : kx_MV l yX11_laysSigns cX11_laysSigns 7 none 3 72 D T [.ref (h 0), .int v1] (wM T h m_taped m_states m_ra m_rb m_threes m_primes m_ones m_unit m_allParts m_allNorms m_allClasses m_odd m_boxWide m_boxHigh m_boxStep m_partingMany m_qa m_qb m_la m_lb m_sa m_sb m_ta m_tb m_listed m_tells m_wanted m_found m_bits m_power2 m_rings m_ringA m_ringB m_seedNow m_tape m_has m_keptHas m_first m_second m_keptFirst m_keptSecond m_pa m_pb m_pNorm m_cubed m_isOpen m_signs m_often m_la0 m_lb0) (wM T h m_taped m_states x.1 x.2.1 m_threes m_primes m_ones m_unit m_allParts m_allNorms m_allClasses m_odd m_boxWide m_boxHigh m_boxStep m_partingMany m_qa m_qb m_la m_lb m_sa m_sb m_ta m_tb m_listed m_tells m_wanted m_found m_bits m_power2 m_rings m_ringA m_ringB m_seedNow m_tape m_has m_keptHas m_first m_second m_keptFirst m_keptSecond m_pa m_pb m_pNorm m_cubed m_isOpen x.2.2 m_often m_la0 m_lb0) := by
  refine kx_ofMV RX11 rfl (plainFor_of_name (x := yX11_laysSigns) kpn_X11) rfl ?_
  intro E A H ls _ C X R hl
  have hl : lv_has ls 7 [(0, .ref (h 0)), (1, .int v1)] := hl
  rw [f_X11_laysSigns] at hf
  refine x_aload_n 1 C dX11_laysSigns_0 hl 0 rfl rfl ?_
  refine x_iload_n 2 C dX11_laysSigns_1 hl 1 rfl rfl ?_
  obtain ⟨y2, hy2, hf⟩ := kx_bind hf
  refine x_callVv0 5 C dX11_laysSigns_2 X hl kl_X11_211 (c_X11_splits E.2.1 D T h N v1 m_taped m_states m_ra m_rb m_threes m_primes m_ones m_unit m_allParts m_allNorms m_allClasses m_odd m_boxWide m_boxHigh m_boxStep m_partingMany m_qa m_qb m_la m_lb m_sa m_sb m_ta m_tb m_listed m_tells m_wanted m_found m_bits m_power2 m_rings m_ringA m_ringB m_seedNow m_tape m_has m_keptHas m_first m_second m_keptFirst m_keptSecond m_pa m_pb m_pNorm m_cubed m_isOpen m_signs m_often m_la0 m_lb0 y2 hy2) rfl rfl [] rfl rfl rfl rfl rfl rfl (fun H locs X => ?_)
  refine x_aload_n 6 C dX11_laysSigns_5 hl 0 rfl rfl ?_
  refine x_get 9 C dX11_laysSigns_6 X kf_X11_105 0 rfl rfl rfl ?_
  refine x_iload_n 10 C dX11_laysSigns_9 hl 1 rfl rfl ?_
  refine x_i2l 11 C dX11_laysSigns_10 rfl ?_
  obtain ⟨y11, hy11, hf⟩ := kx_bind hf
  refine x_callSl 14 C dX11_laysSigns_11 X hl kl_X11_136 (c_X11_rest E.2.1 D T  y2.1 (v1).toInt64  y11 hy11) [] rfl rfl rfl rfl rfl cb_7 rfl (fun H locs X => ?_)
  refine x_l2i 15 C dX11_laysSigns_14 rfl ?_
  refine x_istore_n 16 C dX11_laysSigns_15 [(2, .int (y11).toInt32), (0, .ref (h 0)), (1, .int v1)] hl rfl rfl rfl (fun ls hl => ?_)
  refine x_aload_n 17 C dX11_laysSigns_16 hl 1 rfl rfl ?_
  refine x_get 20 C dX11_laysSigns_17 X kf_X11_109 0 rfl rfl rfl ?_
  refine x_iload_n 21 C dX11_laysSigns_20 hl 2 rfl rfl ?_
  refine x_i2l 22 C dX11_laysSigns_21 rfl ?_
  obtain ⟨y22, hy22, hf⟩ := kx_bind hf
  refine x_callSl 25 C dX11_laysSigns_22 X hl kl_X11_136 (c_X11_rest E.2.1 D T  y2.2 (v1).toInt64  y22 hy22) [] rfl rfl rfl rfl rfl cb_7 rfl (fun H locs X => ?_)
  refine x_l2i 26 C dX11_laysSigns_25 rfl ?_
  refine x_istore_n 27 C dX11_laysSigns_26 [(3, .int (y22).toInt32), (2, .int (y11).toInt32), (0, .ref (h 0)), (1, .int v1)] hl rfl rfl rfl (fun ls hl => ?_)
  refine x_iload_n 28 C dX11_laysSigns_27 hl 3 rfl rfl ?_
  refine x_iload_n 29 C dX11_laysSigns_28 hl 1 rfl rfl ?_
  refine x_isub 30 C dX11_laysSigns_29 rfl ?_
  refine x_iload_n 31 C dX11_laysSigns_30 hl 0 rfl rfl ?_
  refine x_iload_n 32 C dX11_laysSigns_31 hl 3 rfl rfl ?_
  refine x_iconst 33 C dX11_laysSigns_32 (2 : Int32) kv_iconst_2 rfl ?_
  refine x_isub 34 C dX11_laysSigns_33 rfl ?_
  refine x_iload_n 35 C dX11_laysSigns_34 hl 3 rfl rfl ?_
  obtain ⟨y35, hy35, hf⟩ := kx_bind hf
  refine x_callSi 38 C dX11_laysSigns_35 X hl kl_X11_371 (c_X11_powerBy E.2.1 D T  N (y22).toInt32 (v1 - (2 : Int32)) v1  y35 hy35) [.int (v1 - (y11).toInt32)] rfl rfl rfl rfl rfl cb_7 rfl (fun H locs X => ?_)
  refine x_imul 39 C dX11_laysSigns_38 rfl ?_
  refine x_iload_n 40 C dX11_laysSigns_39 hl 3 rfl rfl ?_
  refine x_irem 41 C dX11_laysSigns_40 hf rfl (fun hf => ?_)
  refine x_istore 43 C dX11_laysSigns_41 [(4, .int (((v1 - (y11).toInt32) * y35) - ((v1 - (y11).toInt32) * y35) / v1 * v1)), (3, .int (y22).toInt32), (2, .int (y11).toInt32), (0, .ref (h 0)), (1, .int v1)] hl rfl rfl rfl (fun ls hl => ?_)
  refine x_iconst 44 C dX11_laysSigns_43 (1 : Int32) kv_iconst_1 rfl ?_
  refine x_istore 46 C dX11_laysSigns_44 [(5, .int (1 : Int32)), (4, .int (((v1 - (y11).toInt32) * y35) - ((v1 - (y11).toInt32) * y35) / v1 * v1)), (3, .int (y22).toInt32), (2, .int (y11).toInt32), (0, .ref (h 0)), (1, .int v1)] hl rfl rfl rfl (fun ls hl => ?_)
  exact w_X11_laysSigns_46 h C N x m_taped m_states m_threes m_primes m_ones m_unit m_allParts m_allNorms m_allClasses m_odd m_boxWide m_boxHigh m_boxStep m_partingMany m_qa m_qb m_la m_lb m_sa m_sb m_ta m_tb m_listed m_tells m_wanted m_found m_bits m_power2 m_rings m_ringA m_ringB m_seedNow m_tape m_has m_keptHas m_first m_second m_keptFirst m_keptSecond m_pa m_pb m_pNorm m_cubed m_isOpen m_often m_la0 m_lb0 R  N y2.1 y2.2 m_signs v1 (((v1 - (y11).toInt32) * y35) - ((v1 - (y11).toInt32) * y35) / v1 * v1) (1 : Int32) _ _ _ X (lv_sub hl [4, 5, 1, 0] rfl) hf
set_option maxHeartbeats 4000000 in
set_option maxRecDepth 100000 in
theorem w_X11_pointsOf_67 {E : KE} {A : Nat → Prop} {D : va_G} {T : KT} (h : Nat → Nat) (C : kx_C E cX11_pointsOf 4 (some .int) RX11 0 0 D T) (N : Nat) (x : Int32 × (Nat → Int32)) (m_taped m_states : Int32) (m_ra m_rb : Int64) (m_threes m_primes m_ones m_unit : Int32) (m_allParts m_allNorms m_allClasses : Int64) (m_odd : Int32) (m_boxWide m_boxHigh m_boxStep : Int64) (m_partingMany : Int32) (m_qa m_qb m_la m_lb m_sa m_sb m_ta m_tb : Int64) (m_listed m_tells m_wanted m_found : Int32) (m_bits : Int64) (m_power2 m_rings m_ringA m_ringB m_seedNow : Int32) (m_tape m_has m_keptHas m_first m_second m_keptFirst m_keptSecond m_pa m_pb m_pNorm m_cubed m_isOpen m_signs m_la0 m_lb0 : Nat → Int32) (R : kx_RI E cX11_pointsOf D A (wM T h m_taped m_states m_ra m_rb m_threes m_primes m_ones m_unit m_allParts m_allNorms m_allClasses m_odd m_boxWide m_boxHigh m_boxStep m_partingMany m_qa m_qb m_la m_lb m_sa m_sb m_ta m_tb m_listed m_tells m_wanted m_found m_bits m_power2 m_rings m_ringA m_ringB m_seedNow m_tape m_has m_keptHas m_first m_second m_keptFirst m_keptSecond m_pa m_pb m_pNorm m_cubed m_isOpen m_signs x.2 m_la0 m_lb0) x.1) : ∀ (k : Nat), ∀ (m_often : Nat → Int32) (v1 v2 v3 : Int32) (H : Heap) (locs : List Loc) (ls : Array Slot), kx_H E D A H locs (wM T h m_taped m_states m_ra m_rb m_threes m_primes m_ones m_unit m_allParts m_allNorms m_allClasses m_odd m_boxWide m_boxHigh m_boxStep m_partingMany m_qa m_qb m_la m_lb m_sa m_sb m_ta m_tb m_listed m_tells m_wanted m_found m_bits m_power2 m_rings m_ringA m_ringB m_seedNow m_tape m_has m_keptHas m_first m_second m_keptFirst m_keptSecond m_pa m_pb m_pNorm m_cubed m_isOpen m_signs m_often m_la0 m_lb0) → lv_has ls 4 [(0, .ref (h 0)), (1, .int v1), (2, .int v2), (3, .int v3)] → f_X11_pointsOf_67 N k v1 v2 v3 m_often = some x → kx_W E H locs 67 ls [] := by
  intro k
  induction k with
  | zero =>
    intro m_often v1 v2 v3 H locs ls X hl hf
    cases (show (none : Option (Int32 × (Nat → Int32))) = some x from hf)
  | succ k ih =>
    intro m_often v1 v2 v3 H locs ls X hl hf
    rw [f_X11_pointsOf_67] at hf
    refine x_iload_n 68 C dX11_pointsOf_67 hl 3 rfl rfl ?_
    refine x_iload_n 69 C dX11_pointsOf_68 hl 1 rfl rfl ?_
    refine x_icmp_ge 100 72 C dX11_pointsOf_69 rfl rfl hf (fun hf => ?_) (fun hf => ?_)
    · refine x_iload_n 101 C dX11_pointsOf_100 hl 2 rfl rfl ?_
      obtain rfl := Option.some.inj hf
      exact R _ _ _ _ X dX11_pointsOf_101
    refine x_iload_n 73 C dX11_pointsOf_72 hl 2 rfl rfl ?_
    refine x_aload_n 74 C dX11_pointsOf_73 hl 0 rfl rfl ?_
    refine x_get 77 C dX11_pointsOf_74 X kf_X11_51 0 rfl rfl rfl ?_
    refine x_iload_n 78 C dX11_pointsOf_77 hl 3 rfl rfl ?_
    refine x_iald 79 C dX11_pointsOf_78 X 14 rfl hf rfl (fun hf => ?_)
    refine x_aload_n 80 C dX11_pointsOf_79 hl 0 rfl rfl ?_
    refine x_get 83 C dX11_pointsOf_80 X kf_X11_51 0 rfl rfl rfl ?_
    refine x_iload_n 84 C dX11_pointsOf_83 hl 1 rfl rfl ?_
    refine x_iconst 85 C dX11_pointsOf_84 (1 : Int32) kv_iconst_1 rfl ?_
    refine x_iadd 86 C dX11_pointsOf_85 rfl ?_
    refine x_iload_n 87 C dX11_pointsOf_86 hl 3 rfl rfl ?_
    refine x_isub 88 C dX11_pointsOf_87 rfl ?_
    refine x_iload_n 89 C dX11_pointsOf_88 hl 1 rfl rfl ?_
    refine x_irem 90 C dX11_pointsOf_89 hf rfl (fun hf => ?_)
    refine x_iald 91 C dX11_pointsOf_90 X 14 rfl hf rfl (fun hf => ?_)
    refine x_imul 92 C dX11_pointsOf_91 rfl ?_
    refine x_iadd 93 C dX11_pointsOf_92 rfl ?_
    refine x_istore_n 94 C dX11_pointsOf_93 [(2, .int (v2 + ((m_often (v3).toNatClampNeg) * (m_often ((((v1 + (1 : Int32)) - v3) - ((v1 + (1 : Int32)) - v3) / v1 * v1)).toNatClampNeg)))), (0, .ref (h 0)), (1, .int v1), (3, .int v3)] hl rfl rfl rfl (fun ls hl => ?_)
    refine x_iinc 97 C dX11_pointsOf_94 (1 : Int32) kv_iconst_1 [(3, .int (v3 + (1 : Int32))), (2, .int (v2 + ((m_often (v3).toNatClampNeg) * (m_often ((((v1 + (1 : Int32)) - v3) - ((v1 + (1 : Int32)) - v3) / v1 * v1)).toNatClampNeg)))), (0, .ref (h 0)), (1, .int v1)] hl 3 rfl rfl rfl rfl (fun ls hl => ?_)
    refine x_goto 67 C dX11_pointsOf_97 rfl ?_
    exact ih m_often v1 (v2 + ((m_often (v3).toNatClampNeg) * (m_often ((((v1 + (1 : Int32)) - v3) - ((v1 + (1 : Int32)) - v3) / v1 * v1)).toNatClampNeg))) (v3 + (1 : Int32)) _ _ _ X (lv_sub hl [2, 3, 1, 0] rfl) hf
set_option maxHeartbeats 4000000 in
set_option maxRecDepth 100000 in
theorem w_X11_pointsOf_22 {E : KE} {A : Nat → Prop} {D : va_G} {T : KT} (h : Nat → Nat) (C : kx_C E cX11_pointsOf 4 (some .int) RX11 0 0 D T) (N : Nat) (x : Int32 × (Nat → Int32)) (m_taped m_states : Int32) (m_ra m_rb : Int64) (m_threes m_primes m_ones m_unit : Int32) (m_allParts m_allNorms m_allClasses : Int64) (m_odd : Int32) (m_boxWide m_boxHigh m_boxStep : Int64) (m_partingMany : Int32) (m_qa m_qb m_la m_lb m_sa m_sb m_ta m_tb : Int64) (m_listed m_tells m_wanted m_found : Int32) (m_bits : Int64) (m_power2 m_rings m_ringA m_ringB m_seedNow : Int32) (m_tape m_has m_keptHas m_first m_second m_keptFirst m_keptSecond m_pa m_pb m_pNorm m_cubed m_isOpen m_signs m_la0 m_lb0 : Nat → Int32) (R : kx_RI E cX11_pointsOf D A (wM T h m_taped m_states m_ra m_rb m_threes m_primes m_ones m_unit m_allParts m_allNorms m_allClasses m_odd m_boxWide m_boxHigh m_boxStep m_partingMany m_qa m_qb m_la m_lb m_sa m_sb m_ta m_tb m_listed m_tells m_wanted m_found m_bits m_power2 m_rings m_ringA m_ringB m_seedNow m_tape m_has m_keptHas m_first m_second m_keptFirst m_keptSecond m_pa m_pb m_pNorm m_cubed m_isOpen m_signs x.2 m_la0 m_lb0) x.1) : ∀ (k : Nat), ∀ (m_often : Nat → Int32) (v1 v2 : Int32) (H : Heap) (locs : List Loc) (ls : Array Slot), kx_H E D A H locs (wM T h m_taped m_states m_ra m_rb m_threes m_primes m_ones m_unit m_allParts m_allNorms m_allClasses m_odd m_boxWide m_boxHigh m_boxStep m_partingMany m_qa m_qb m_la m_lb m_sa m_sb m_ta m_tb m_listed m_tells m_wanted m_found m_bits m_power2 m_rings m_ringA m_ringB m_seedNow m_tape m_has m_keptHas m_first m_second m_keptFirst m_keptSecond m_pa m_pb m_pNorm m_cubed m_isOpen m_signs m_often m_la0 m_lb0) → lv_has ls 4 [(0, .ref (h 0)), (1, .int v1), (2, .int v2)] → f_X11_pointsOf_22 N k v1 v2 m_often = some x → kx_W E H locs 22 ls [] := by
  intro k
  induction k with
  | zero =>
    intro m_often v1 v2 H locs ls X hl hf
    cases (show (none : Option (Int32 × (Nat → Int32))) = some x from hf)
  | succ k ih =>
    intro m_often v1 v2 H locs ls X hl hf
    rw [f_X11_pointsOf_22] at hf
    refine x_iload_n 23 C dX11_pointsOf_22 hl 2 rfl rfl ?_
    refine x_iload_n 24 C dX11_pointsOf_23 hl 1 rfl rfl ?_
    refine x_icmp_ge 63 27 C dX11_pointsOf_24 rfl rfl hf (fun hf => ?_) (fun hf => ?_)
    · refine x_iconst 64 C dX11_pointsOf_63 (0 : Int32) kv_iconst_0 rfl ?_
      refine x_istore_n 65 C dX11_pointsOf_64 [(2, .int (0 : Int32)), (0, .ref (h 0)), (1, .int v1)] hl rfl rfl rfl (fun ls hl => ?_)
      refine x_iconst 66 C dX11_pointsOf_65 (0 : Int32) kv_iconst_0 rfl ?_
      refine x_istore_n 67 C dX11_pointsOf_66 [(3, .int (0 : Int32)), (2, .int (0 : Int32)), (0, .ref (h 0)), (1, .int v1)] hl rfl rfl rfl (fun ls hl => ?_)
      exact w_X11_pointsOf_67 h C N x m_taped m_states m_ra m_rb m_threes m_primes m_ones m_unit m_allParts m_allNorms m_allClasses m_odd m_boxWide m_boxHigh m_boxStep m_partingMany m_qa m_qb m_la m_lb m_sa m_sb m_ta m_tb m_listed m_tells m_wanted m_found m_bits m_power2 m_rings m_ringA m_ringB m_seedNow m_tape m_has m_keptHas m_first m_second m_keptFirst m_keptSecond m_pa m_pb m_pNorm m_cubed m_isOpen m_signs m_la0 m_lb0 R  N m_often v1 (0 : Int32) (0 : Int32) _ _ _ X (lv_sub hl [2, 3, 1, 0] rfl) hf
    refine x_aload_n 28 C dX11_pointsOf_27 hl 0 rfl rfl ?_
    refine x_get 31 C dX11_pointsOf_28 X kf_X11_51 0 rfl rfl rfl ?_
    refine x_iload_n 32 C dX11_pointsOf_31 hl 2 rfl rfl ?_
    refine x_iload_n 33 C dX11_pointsOf_32 hl 2 rfl rfl ?_
    refine x_imul 34 C dX11_pointsOf_33 rfl ?_
    refine x_iload_n 35 C dX11_pointsOf_34 hl 1 rfl rfl ?_
    refine x_irem 36 C dX11_pointsOf_35 hf rfl (fun hf => ?_)
    refine x_iload_n 37 C dX11_pointsOf_36 hl 2 rfl rfl ?_
    refine x_imul 38 C dX11_pointsOf_37 rfl ?_
    refine x_iload_n 39 C dX11_pointsOf_38 hl 1 rfl rfl ?_
    refine x_irem 40 C dX11_pointsOf_39 hf rfl (fun hf => ?_)
    refine x_aload_n 41 C dX11_pointsOf_40 hl 0 rfl rfl ?_
    refine x_get 44 C dX11_pointsOf_41 X kf_X11_51 0 rfl rfl rfl ?_
    refine x_iload_n 45 C dX11_pointsOf_44 hl 2 rfl rfl ?_
    refine x_iload_n 46 C dX11_pointsOf_45 hl 2 rfl rfl ?_
    refine x_imul 47 C dX11_pointsOf_46 rfl ?_
    refine x_iload_n 48 C dX11_pointsOf_47 hl 1 rfl rfl ?_
    refine x_irem 49 C dX11_pointsOf_48 hf rfl (fun hf => ?_)
    refine x_iload_n 50 C dX11_pointsOf_49 hl 2 rfl rfl ?_
    refine x_imul 51 C dX11_pointsOf_50 rfl ?_
    refine x_iload_n 52 C dX11_pointsOf_51 hl 1 rfl rfl ?_
    refine x_irem 53 C dX11_pointsOf_52 hf rfl (fun hf => ?_)
    refine x_iald 54 C dX11_pointsOf_53 X 14 rfl hf rfl (fun hf => ?_)
    refine x_iconst 55 C dX11_pointsOf_54 (1 : Int32) kv_iconst_1 rfl ?_
    refine x_iadd 56 C dX11_pointsOf_55 rfl ?_
    refine x_iast 57 C dX11_pointsOf_56 X 14 rfl (wM T h m_taped m_states m_ra m_rb m_threes m_primes m_ones m_unit m_allParts m_allNorms m_allClasses m_odd m_boxWide m_boxHigh m_boxStep m_partingMany m_qa m_qb m_la m_lb m_sa m_sb m_ta m_tb m_listed m_tells m_wanted m_found m_bits m_power2 m_rings m_ringA m_ringB m_seedNow m_tape m_has m_keptHas m_first m_second m_keptFirst m_keptSecond m_pa m_pb m_pNorm m_cubed m_isOpen m_signs (upd m_often (((((v2 * v2) - (v2 * v2) / v1 * v1) * v2) - (((v2 * v2) - (v2 * v2) / v1 * v1) * v2) / v1 * v1)).toNatClampNeg ((m_often (((((v2 * v2) - (v2 * v2) / v1 * v1) * v2) - (((v2 * v2) - (v2 * v2) / v1 * v1) * v2) / v1 * v1)).toNatClampNeg) + (1 : Int32))) m_la0 m_lb0) rfl hf rfl (fun H locs X hf => ?_)
    refine x_iinc 60 C dX11_pointsOf_57 (1 : Int32) kv_iconst_1 [(2, .int (v2 + (1 : Int32))), (0, .ref (h 0)), (1, .int v1)] hl 2 rfl rfl rfl rfl (fun ls hl => ?_)
    refine x_goto 22 C dX11_pointsOf_60 rfl ?_
    exact ih (upd m_often (((((v2 * v2) - (v2 * v2) / v1 * v1) * v2) - (((v2 * v2) - (v2 * v2) / v1 * v1) * v2) / v1 * v1)).toNatClampNeg ((m_often (((((v2 * v2) - (v2 * v2) / v1 * v1) * v2) - (((v2 * v2) - (v2 * v2) / v1 * v1) * v2) / v1 * v1)).toNatClampNeg) + (1 : Int32))) v1 (v2 + (1 : Int32)) _ _ _ X (lv_sub hl [1, 2, 0] rfl) hf
set_option maxHeartbeats 4000000 in
set_option maxRecDepth 100000 in
theorem w_X11_pointsOf_2 {E : KE} {A : Nat → Prop} {D : va_G} {T : KT} (h : Nat → Nat) (C : kx_C E cX11_pointsOf 4 (some .int) RX11 0 0 D T) (N : Nat) (x : Int32 × (Nat → Int32)) (m_taped m_states : Int32) (m_ra m_rb : Int64) (m_threes m_primes m_ones m_unit : Int32) (m_allParts m_allNorms m_allClasses : Int64) (m_odd : Int32) (m_boxWide m_boxHigh m_boxStep : Int64) (m_partingMany : Int32) (m_qa m_qb m_la m_lb m_sa m_sb m_ta m_tb : Int64) (m_listed m_tells m_wanted m_found : Int32) (m_bits : Int64) (m_power2 m_rings m_ringA m_ringB m_seedNow : Int32) (m_tape m_has m_keptHas m_first m_second m_keptFirst m_keptSecond m_pa m_pb m_pNorm m_cubed m_isOpen m_signs m_la0 m_lb0 : Nat → Int32) (R : kx_RI E cX11_pointsOf D A (wM T h m_taped m_states m_ra m_rb m_threes m_primes m_ones m_unit m_allParts m_allNorms m_allClasses m_odd m_boxWide m_boxHigh m_boxStep m_partingMany m_qa m_qb m_la m_lb m_sa m_sb m_ta m_tb m_listed m_tells m_wanted m_found m_bits m_power2 m_rings m_ringA m_ringB m_seedNow m_tape m_has m_keptHas m_first m_second m_keptFirst m_keptSecond m_pa m_pb m_pNorm m_cubed m_isOpen m_signs x.2 m_la0 m_lb0) x.1) : ∀ (k : Nat), ∀ (m_often : Nat → Int32) (v1 v2 : Int32) (H : Heap) (locs : List Loc) (ls : Array Slot), kx_H E D A H locs (wM T h m_taped m_states m_ra m_rb m_threes m_primes m_ones m_unit m_allParts m_allNorms m_allClasses m_odd m_boxWide m_boxHigh m_boxStep m_partingMany m_qa m_qb m_la m_lb m_sa m_sb m_ta m_tb m_listed m_tells m_wanted m_found m_bits m_power2 m_rings m_ringA m_ringB m_seedNow m_tape m_has m_keptHas m_first m_second m_keptFirst m_keptSecond m_pa m_pb m_pNorm m_cubed m_isOpen m_signs m_often m_la0 m_lb0) → lv_has ls 4 [(0, .ref (h 0)), (1, .int v1), (2, .int v2)] → f_X11_pointsOf_2 N k v1 v2 m_often = some x → kx_W E H locs 2 ls [] := by
  intro k
  induction k with
  | zero =>
    intro m_often v1 v2 H locs ls X hl hf
    cases (show (none : Option (Int32 × (Nat → Int32))) = some x from hf)
  | succ k ih =>
    intro m_often v1 v2 H locs ls X hl hf
    rw [f_X11_pointsOf_2] at hf
    refine x_iload_n 3 C dX11_pointsOf_2 hl 2 rfl rfl ?_
    refine x_iload_n 4 C dX11_pointsOf_3 hl 1 rfl rfl ?_
    refine x_icmp_ge 20 7 C dX11_pointsOf_4 rfl rfl hf (fun hf => ?_) (fun hf => ?_)
    · refine x_iconst 21 C dX11_pointsOf_20 (0 : Int32) kv_iconst_0 rfl ?_
      refine x_istore_n 22 C dX11_pointsOf_21 [(2, .int (0 : Int32)), (0, .ref (h 0)), (1, .int v1)] hl rfl rfl rfl (fun ls hl => ?_)
      exact w_X11_pointsOf_22 h C N x m_taped m_states m_ra m_rb m_threes m_primes m_ones m_unit m_allParts m_allNorms m_allClasses m_odd m_boxWide m_boxHigh m_boxStep m_partingMany m_qa m_qb m_la m_lb m_sa m_sb m_ta m_tb m_listed m_tells m_wanted m_found m_bits m_power2 m_rings m_ringA m_ringB m_seedNow m_tape m_has m_keptHas m_first m_second m_keptFirst m_keptSecond m_pa m_pb m_pNorm m_cubed m_isOpen m_signs m_la0 m_lb0 R  N m_often v1 (0 : Int32) _ _ _ X (lv_sub hl [1, 2, 0] rfl) hf
    refine x_aload_n 8 C dX11_pointsOf_7 hl 0 rfl rfl ?_
    refine x_get 11 C dX11_pointsOf_8 X kf_X11_51 0 rfl rfl rfl ?_
    refine x_iload_n 12 C dX11_pointsOf_11 hl 2 rfl rfl ?_
    refine x_iconst 13 C dX11_pointsOf_12 (0 : Int32) kv_iconst_0 rfl ?_
    refine x_iast 14 C dX11_pointsOf_13 X 14 rfl (wM T h m_taped m_states m_ra m_rb m_threes m_primes m_ones m_unit m_allParts m_allNorms m_allClasses m_odd m_boxWide m_boxHigh m_boxStep m_partingMany m_qa m_qb m_la m_lb m_sa m_sb m_ta m_tb m_listed m_tells m_wanted m_found m_bits m_power2 m_rings m_ringA m_ringB m_seedNow m_tape m_has m_keptHas m_first m_second m_keptFirst m_keptSecond m_pa m_pb m_pNorm m_cubed m_isOpen m_signs (upd m_often (v2).toNatClampNeg (0 : Int32)) m_la0 m_lb0) rfl hf rfl (fun H locs X hf => ?_)
    refine x_iinc 17 C dX11_pointsOf_14 (1 : Int32) kv_iconst_1 [(2, .int (v2 + (1 : Int32))), (0, .ref (h 0)), (1, .int v1)] hl 2 rfl rfl rfl rfl (fun ls hl => ?_)
    refine x_goto 2 C dX11_pointsOf_17 rfl ?_
    exact ih (upd m_often (v2).toNatClampNeg (0 : Int32)) v1 (v2 + (1 : Int32)) _ _ _ X (lv_sub hl [1, 2, 0] rfl) hf
set_option maxHeartbeats 4000000 in
set_option maxRecDepth 100000 in
theorem c_X11_pointsOf (l : Launch) (D : va_G) (T : KT) (h : Nat → Nat) (N : Nat) (v1 : Int32) (m_taped m_states : Int32) (m_ra m_rb : Int64) (m_threes m_primes m_ones m_unit : Int32) (m_allParts m_allNorms m_allClasses : Int64) (m_odd : Int32) (m_boxWide m_boxHigh m_boxStep : Int64) (m_partingMany : Int32) (m_qa m_qb m_la m_lb m_sa m_sb m_ta m_tb : Int64) (m_listed m_tells m_wanted m_found : Int32) (m_bits : Int64) (m_power2 m_rings m_ringA m_ringB m_seedNow : Int32) (m_tape m_has m_keptHas m_first m_second m_keptFirst m_keptSecond m_pa m_pb m_pNorm m_cubed m_isOpen m_signs m_often m_la0 m_lb0 : Nat → Int32) (x : Int32 × (Nat → Int32)) (hf : f_X11_pointsOf N v1 m_often = some x) : kx_MI l yX11_pointsOf cX11_pointsOf 4 (some .int) 0 0 D T [.ref (h 0), .int v1] (wM T h m_taped m_states m_ra m_rb m_threes m_primes m_ones m_unit m_allParts m_allNorms m_allClasses m_odd m_boxWide m_boxHigh m_boxStep m_partingMany m_qa m_qb m_la m_lb m_sa m_sb m_ta m_tb m_listed m_tells m_wanted m_found m_bits m_power2 m_rings m_ringA m_ringB m_seedNow m_tape m_has m_keptHas m_first m_second m_keptFirst m_keptSecond m_pa m_pb m_pNorm m_cubed m_isOpen m_signs m_often m_la0 m_lb0) (wM T h m_taped m_states m_ra m_rb m_threes m_primes m_ones m_unit m_allParts m_allNorms m_allClasses m_odd m_boxWide m_boxHigh m_boxStep m_partingMany m_qa m_qb m_la m_lb m_sa m_sb m_ta m_tb m_listed m_tells m_wanted m_found m_bits m_power2 m_rings m_ringA m_ringB m_seedNow m_tape m_has m_keptHas m_first m_second m_keptFirst m_keptSecond m_pa m_pb m_pNorm m_cubed m_isOpen m_signs x.2 m_la0 m_lb0) x.1 := by
  refine kx_ofMI RX11 rfl (plainFor_of_name (x := yX11_pointsOf) kpn_X11) rfl ?_
  intro E A H ls _ C X R hl
  have hl : lv_has ls 4 [(0, .ref (h 0)), (1, .int v1)] := hl
  rw [f_X11_pointsOf] at hf
  refine x_iconst 1 C dX11_pointsOf_0 (0 : Int32) kv_iconst_0 rfl ?_
  refine x_istore_n 2 C dX11_pointsOf_1 [(2, .int (0 : Int32)), (0, .ref (h 0)), (1, .int v1)] hl rfl rfl rfl (fun ls hl => ?_)
  exact w_X11_pointsOf_2 h C N x m_taped m_states m_ra m_rb m_threes m_primes m_ones m_unit m_allParts m_allNorms m_allClasses m_odd m_boxWide m_boxHigh m_boxStep m_partingMany m_qa m_qb m_la m_lb m_sa m_sb m_ta m_tb m_listed m_tells m_wanted m_found m_bits m_power2 m_rings m_ringA m_ringB m_seedNow m_tape m_has m_keptHas m_first m_second m_keptFirst m_keptSecond m_pa m_pb m_pNorm m_cubed m_isOpen m_signs m_la0 m_lb0 R  N m_often v1 (0 : Int32) _ _ _ X (lv_sub hl [1, 2, 0] rfl) hf
set_option maxHeartbeats 4000000 in
set_option maxRecDepth 100000 in
theorem w_X11_sum_96 {E : KE} {A : Nat → Prop} {D : va_G} {T : KT} (h : Nat → Nat) (C : kx_C E cX11_sum 7 (some .int) RX11 4 98 D T) (N : Nat) (x : Int32 × Int64 × Int64 × (Nat → Int32) × (Nat → Int32)) (m_taped m_states m_threes m_primes m_ones m_unit : Int32) (m_allParts m_allNorms m_allClasses : Int64) (m_odd : Int32) (m_boxWide m_boxHigh m_boxStep : Int64) (m_partingMany : Int32) (m_qa m_qb m_la m_lb m_sa m_sb m_ta m_tb : Int64) (m_listed m_tells m_wanted m_found : Int32) (m_bits : Int64) (m_power2 m_rings m_ringA m_ringB m_seedNow : Int32) (m_tape m_has m_keptHas m_first m_second m_keptFirst m_keptSecond m_pa m_pb m_pNorm m_cubed m_isOpen m_la0 m_lb0 : Nat → Int32) (R : kx_RI E cX11_sum D A (wM T h m_taped m_states x.2.1 x.2.2.1 m_threes m_primes m_ones m_unit m_allParts m_allNorms m_allClasses m_odd m_boxWide m_boxHigh m_boxStep m_partingMany m_qa m_qb m_la m_lb m_sa m_sb m_ta m_tb m_listed m_tells m_wanted m_found m_bits m_power2 m_rings m_ringA m_ringB m_seedNow m_tape m_has m_keptHas m_first m_second m_keptFirst m_keptSecond m_pa m_pb m_pNorm m_cubed m_isOpen x.2.2.2.1 x.2.2.2.2 m_la0 m_lb0) x.1) (k46 : Int32 → Int32 → Int32 → Int32 → Int32 → Int64 → Int64 → (Nat → Int32) → (Nat → Int32) → Option (Int32 × Int64 × Int64 × (Nat → Int32) × (Nat → Int32))) (hk46 : ∀ (m_ra m_rb : Int64) (m_signs m_often : Nat → Int32) (v1 v2 v3 v4 v5 : Int32) (H : Heap) (locs : List Loc) (ls : Array Slot), kx_H E D A H locs (wM T h m_taped m_states m_ra m_rb m_threes m_primes m_ones m_unit m_allParts m_allNorms m_allClasses m_odd m_boxWide m_boxHigh m_boxStep m_partingMany m_qa m_qb m_la m_lb m_sa m_sb m_ta m_tb m_listed m_tells m_wanted m_found m_bits m_power2 m_rings m_ringA m_ringB m_seedNow m_tape m_has m_keptHas m_first m_second m_keptFirst m_keptSecond m_pa m_pb m_pNorm m_cubed m_isOpen m_signs m_often m_la0 m_lb0) → lv_has ls 7 [(0, .ref (h 0)), (1, .int v1), (2, .int v2), (3, .int v3), (4, .int v4), (5, .int v5)] → k46 v1 v2 v3 v4 v5 m_ra m_rb m_signs m_often = some x → kx_W E H locs 46 ls []) : ∀ (m_ra m_rb : Int64) (m_signs m_often : Nat → Int32) (v1 v2 v4 v5 v6 s0 s1 : Int32) (H : Heap) (locs : List Loc) (ls : Array Slot), kx_H E D A H locs (wM T h m_taped m_states m_ra m_rb m_threes m_primes m_ones m_unit m_allParts m_allNorms m_allClasses m_odd m_boxWide m_boxHigh m_boxStep m_partingMany m_qa m_qb m_la m_lb m_sa m_sb m_ta m_tb m_listed m_tells m_wanted m_found m_bits m_power2 m_rings m_ringA m_ringB m_seedNow m_tape m_has m_keptHas m_first m_second m_keptFirst m_keptSecond m_pa m_pb m_pNorm m_cubed m_isOpen m_signs m_often m_la0 m_lb0) → lv_has ls 7 [(0, .ref (h 0)), (1, .int v1), (2, .int v2), (4, .int v4), (5, .int v5), (6, .int v6)] → f_X11_sum_96 N k46 v1 v2 v4 v5 v6 s0 s1 m_ra m_rb m_signs m_often = some x → kx_W E H locs 96 ls [.int s1, .int s0] := by
  intro m_ra m_rb m_signs m_often v1 v2 v4 v5 v6 s0 s1 H locs ls X hl hf
  rw [f_X11_sum_96] at hf
  refine x_iadd 97 C dX11_sum_96 rfl ?_
  refine x_istore_n 98 C dX11_sum_97 [(3, .int (s0 + s1)), (0, .ref (h 0)), (1, .int v1), (2, .int v2), (4, .int v4), (5, .int v5), (6, .int v6)] hl rfl rfl rfl (fun ls hl => ?_)
  refine x_iload 100 C dX11_sum_98 hl 4 rfl rfl ?_
  refine x_iload 102 C dX11_sum_100 hl 6 rfl rfl ?_
  refine x_iconst 103 C dX11_sum_102 (1 : Int32) kv_iconst_1 rfl ?_
  refine x_icmp_ne 110 106 C dX11_sum_103 rfl rfl hf (fun hf => ?_) (fun hf => ?_)
  · refine x_iload 112 C dX11_sum_110 hl 6 rfl rfl ?_
    refine x_iconst 113 C dX11_sum_112 (2 : Int32) kv_iconst_2 rfl ?_
    refine x_icmp_ne 120 116 C dX11_sum_113 rfl rfl hf (fun hf => ?_) (fun hf => ?_)
    · refine x_iconst 121 C dX11_sum_120 (0 : Int32) kv_iconst_0 rfl ?_
      refine x_iadd 122 C dX11_sum_121 rfl ?_
      refine x_istore 124 C dX11_sum_122 [(4, .int (v4 + (0 : Int32))), (3, .int (s0 + s1)), (0, .ref (h 0)), (1, .int v1), (2, .int v2), (5, .int v5), (6, .int v6)] hl rfl rfl rfl (fun ls hl => ?_)
      refine x_iinc 127 C dX11_sum_124 (1 : Int32) kv_iconst_1 [(5, .int (v5 + (1 : Int32))), (4, .int (v4 + (0 : Int32))), (3, .int (s0 + s1)), (0, .ref (h 0)), (1, .int v1), (2, .int v2), (6, .int v6)] hl 5 rfl rfl rfl rfl (fun ls hl => ?_)
      refine x_goto 46 C dX11_sum_127 rfl ?_
      exact hk46 m_ra m_rb m_signs m_often v1 v2 (s0 + s1) (v4 + (0 : Int32)) (v5 + (1 : Int32)) _ _ _ X (lv_sub hl [3, 4, 5, 2, 1, 0] rfl) hf
    refine x_iconst 117 C dX11_sum_116 (-1 : Int32) kv_iconst_m1 rfl ?_
    refine x_goto 121 C dX11_sum_117 rfl ?_
    refine x_iadd 122 C dX11_sum_121 rfl ?_
    refine x_istore 124 C dX11_sum_122 [(4, .int (v4 + (-1 : Int32))), (3, .int (s0 + s1)), (0, .ref (h 0)), (1, .int v1), (2, .int v2), (5, .int v5), (6, .int v6)] hl rfl rfl rfl (fun ls hl => ?_)
    refine x_iinc 127 C dX11_sum_124 (1 : Int32) kv_iconst_1 [(5, .int (v5 + (1 : Int32))), (4, .int (v4 + (-1 : Int32))), (3, .int (s0 + s1)), (0, .ref (h 0)), (1, .int v1), (2, .int v2), (6, .int v6)] hl 5 rfl rfl rfl rfl (fun ls hl => ?_)
    refine x_goto 46 C dX11_sum_127 rfl ?_
    exact hk46 m_ra m_rb m_signs m_often v1 v2 (s0 + s1) (v4 + (-1 : Int32)) (v5 + (1 : Int32)) _ _ _ X (lv_sub hl [3, 4, 5, 2, 1, 0] rfl) hf
  refine x_iconst 107 C dX11_sum_106 (1 : Int32) kv_iconst_1 rfl ?_
  refine x_goto 121 C dX11_sum_107 rfl ?_
  refine x_iadd 122 C dX11_sum_121 rfl ?_
  refine x_istore 124 C dX11_sum_122 [(4, .int (v4 + (1 : Int32))), (3, .int (s0 + s1)), (0, .ref (h 0)), (1, .int v1), (2, .int v2), (5, .int v5), (6, .int v6)] hl rfl rfl rfl (fun ls hl => ?_)
  refine x_iinc 127 C dX11_sum_124 (1 : Int32) kv_iconst_1 [(5, .int (v5 + (1 : Int32))), (4, .int (v4 + (1 : Int32))), (3, .int (s0 + s1)), (0, .ref (h 0)), (1, .int v1), (2, .int v2), (6, .int v6)] hl 5 rfl rfl rfl rfl (fun ls hl => ?_)
  refine x_goto 46 C dX11_sum_127 rfl ?_
  exact hk46 m_ra m_rb m_signs m_often v1 v2 (s0 + s1) (v4 + (1 : Int32)) (v5 + (1 : Int32)) _ _ _ X (lv_sub hl [3, 4, 5, 2, 1, 0] rfl) hf
set_option maxHeartbeats 4000000 in
set_option maxRecDepth 100000 in
theorem w_X11_sum_46 {E : KE} {A : Nat → Prop} {D : va_G} {T : KT} (h : Nat → Nat) (C : kx_C E cX11_sum 7 (some .int) RX11 4 98 D T) (N : Nat) (x : Int32 × Int64 × Int64 × (Nat → Int32) × (Nat → Int32)) (m_taped m_states m_threes m_primes m_ones m_unit : Int32) (m_allParts m_allNorms m_allClasses : Int64) (m_odd : Int32) (m_boxWide m_boxHigh m_boxStep : Int64) (m_partingMany : Int32) (m_qa m_qb m_la m_lb m_sa m_sb m_ta m_tb : Int64) (m_listed m_tells m_wanted m_found : Int32) (m_bits : Int64) (m_power2 m_rings m_ringA m_ringB m_seedNow : Int32) (m_tape m_has m_keptHas m_first m_second m_keptFirst m_keptSecond m_pa m_pb m_pNorm m_cubed m_isOpen m_la0 m_lb0 : Nat → Int32) (R : kx_RI E cX11_sum D A (wM T h m_taped m_states x.2.1 x.2.2.1 m_threes m_primes m_ones m_unit m_allParts m_allNorms m_allClasses m_odd m_boxWide m_boxHigh m_boxStep m_partingMany m_qa m_qb m_la m_lb m_sa m_sb m_ta m_tb m_listed m_tells m_wanted m_found m_bits m_power2 m_rings m_ringA m_ringB m_seedNow m_tape m_has m_keptHas m_first m_second m_keptFirst m_keptSecond m_pa m_pb m_pNorm m_cubed m_isOpen x.2.2.2.1 x.2.2.2.2 m_la0 m_lb0) x.1) : ∀ (k : Nat), ∀ (m_ra m_rb : Int64) (m_signs m_often : Nat → Int32) (v1 v2 v3 v4 v5 : Int32) (H : Heap) (locs : List Loc) (ls : Array Slot), kx_H E D A H locs (wM T h m_taped m_states m_ra m_rb m_threes m_primes m_ones m_unit m_allParts m_allNorms m_allClasses m_odd m_boxWide m_boxHigh m_boxStep m_partingMany m_qa m_qb m_la m_lb m_sa m_sb m_ta m_tb m_listed m_tells m_wanted m_found m_bits m_power2 m_rings m_ringA m_ringB m_seedNow m_tape m_has m_keptHas m_first m_second m_keptFirst m_keptSecond m_pa m_pb m_pNorm m_cubed m_isOpen m_signs m_often m_la0 m_lb0) → lv_has ls 7 [(0, .ref (h 0)), (1, .int v1), (2, .int v2), (3, .int v3), (4, .int v4), (5, .int v5)] → f_X11_sum_46 N k v1 v2 v3 v4 v5 m_ra m_rb m_signs m_often = some x → kx_W E H locs 46 ls [] := by
  intro k
  induction k with
  | zero =>
    intro m_ra m_rb m_signs m_often v1 v2 v3 v4 v5 H locs ls X hl hf
    cases (show (none : Option (Int32 × Int64 × Int64 × (Nat → Int32) × (Nat → Int32))) = some x from hf)
  | succ k ih =>
    intro m_ra m_rb m_signs m_often v1 v2 v3 v4 v5 H locs ls X hl hf
    rw [f_X11_sum_46] at hf
    refine x_iload 48 C dX11_sum_46 hl 5 rfl rfl ?_
    refine x_iload_n 49 C dX11_sum_48 hl 1 rfl rfl ?_
    refine x_icmp_ge 130 52 C dX11_sum_49 rfl rfl hf (fun hf => ?_) (fun hf => ?_)
    · refine x_iload_n 131 C dX11_sum_130 hl 2 rfl rfl ?_
      refine x_if_ne 138 134 C dX11_sum_131 rfl rfl hf (fun hf => ?_) (fun hf => ?_)
      · refine x_iload_n 139 C dX11_sum_138 hl 2 rfl rfl ?_
        refine x_iconst 140 C dX11_sum_139 (1 : Int32) kv_iconst_1 rfl ?_
        refine x_icmp_ne 148 143 C dX11_sum_140 rfl rfl hf (fun hf => ?_) (fun hf => ?_)
        · refine x_iload_n 149 C dX11_sum_148 hl 3 rfl rfl ?_
          refine x_i2l 150 C dX11_sum_149 rfl ?_
          refine x_iload 152 C dX11_sum_150 hl 4 rfl rfl ?_
          refine x_i2l 153 C dX11_sum_152 rfl ?_
          obtain ⟨y153, hy153, hf⟩ := kx_bind hf
          refine x_callSi 156 C dX11_sum_153 X hl kl_X11_160 (c_X11_normOf E.2.1 D T  (v3).toInt64 (v4).toInt64  y153 hy153) [] rfl rfl rfl rfl rfl cb_7 rfl (fun H locs X => ?_)
          obtain rfl := Option.some.inj hf
          exact R _ _ _ _ X dX11_sum_156
        refine x_iload 145 C dX11_sum_143 hl 4 rfl rfl ?_
        refine x_goto 156 C dX11_sum_145 rfl ?_
        obtain rfl := Option.some.inj hf
        exact R _ _ _ _ X dX11_sum_156
      refine x_iload_n 135 C dX11_sum_134 hl 3 rfl rfl ?_
      refine x_goto 156 C dX11_sum_135 rfl ?_
      obtain rfl := Option.some.inj hf
      exact R _ _ _ _ X dX11_sum_156
    refine x_aload_n 53 C dX11_sum_52 hl 0 rfl rfl ?_
    refine x_get 56 C dX11_sum_53 X kf_X11_48 0 rfl rfl rfl ?_
    refine x_iload 58 C dX11_sum_56 hl 5 rfl rfl ?_
    refine x_iald 59 C dX11_sum_58 X 13 rfl hf rfl (fun hf => ?_)
    refine x_aload_n 60 C dX11_sum_59 hl 0 rfl rfl ?_
    refine x_get 63 C dX11_sum_60 X kf_X11_48 0 rfl rfl rfl ?_
    refine x_iload_n 64 C dX11_sum_63 hl 1 rfl rfl ?_
    refine x_iconst 65 C dX11_sum_64 (1 : Int32) kv_iconst_1 rfl ?_
    refine x_iadd 66 C dX11_sum_65 rfl ?_
    refine x_iload 68 C dX11_sum_66 hl 5 rfl rfl ?_
    refine x_isub 69 C dX11_sum_68 rfl ?_
    refine x_iald 70 C dX11_sum_69 X 13 rfl hf rfl (fun hf => ?_)
    refine x_iadd 71 C dX11_sum_70 rfl ?_
    refine x_iconst 72 C dX11_sum_71 (3 : Int32) kv_iconst_3 rfl ?_
    refine x_irem0 73 C dX11_sum_72 kz_i_3 rfl ?_
    refine x_istore 75 C dX11_sum_73 [(6, .int (((m_signs (v5).toNatClampNeg) + (m_signs (((v1 + (1 : Int32)) - v5)).toNatClampNeg)) - ((m_signs (v5).toNatClampNeg) + (m_signs (((v1 + (1 : Int32)) - v5)).toNatClampNeg)) / (3 : Int32) * (3 : Int32))), (0, .ref (h 0)), (1, .int v1), (2, .int v2), (3, .int v3), (4, .int v4), (5, .int v5)] hl rfl rfl rfl (fun ls hl => ?_)
    refine x_iload_n 76 C dX11_sum_75 hl 4 rfl rfl ?_
    refine x_iload 78 C dX11_sum_76 hl 0 rfl rfl ?_
    refine x_if_ne 85 81 C dX11_sum_78 rfl rfl hf (fun hf => ?_) (fun hf => ?_)
    · refine x_iload 87 C dX11_sum_85 hl 0 rfl rfl ?_
      refine x_iconst 88 C dX11_sum_87 (2 : Int32) kv_iconst_2 rfl ?_
      refine x_icmp_ne 95 91 C dX11_sum_88 rfl rfl hf (fun hf => ?_) (fun hf => ?_)
      · refine x_iconst 96 C dX11_sum_95 (0 : Int32) kv_iconst_0 rfl ?_
        exact w_X11_sum_96 h C N x m_taped m_states m_threes m_primes m_ones m_unit m_allParts m_allNorms m_allClasses m_odd m_boxWide m_boxHigh m_boxStep m_partingMany m_qa m_qb m_la m_lb m_sa m_sb m_ta m_tb m_listed m_tells m_wanted m_found m_bits m_power2 m_rings m_ringA m_ringB m_seedNow m_tape m_has m_keptHas m_first m_second m_keptFirst m_keptSecond m_pa m_pb m_pNorm m_cubed m_isOpen m_la0 m_lb0 R (f_X11_sum_46 N k) ih m_ra m_rb m_signs m_often v1 v2 v4 v5 (((m_signs (v5).toNatClampNeg) + (m_signs (((v1 + (1 : Int32)) - v5)).toNatClampNeg)) - ((m_signs (v5).toNatClampNeg) + (m_signs (((v1 + (1 : Int32)) - v5)).toNatClampNeg)) / (3 : Int32) * (3 : Int32)) v3 (0 : Int32) _ _ _ X (lv_sub hl [1, 2, 3, 5, 6, 0] rfl) hf
      refine x_iconst 92 C dX11_sum_91 (-1 : Int32) kv_iconst_m1 rfl ?_
      refine x_goto 96 C dX11_sum_92 rfl ?_
      exact w_X11_sum_96 h C N x m_taped m_states m_threes m_primes m_ones m_unit m_allParts m_allNorms m_allClasses m_odd m_boxWide m_boxHigh m_boxStep m_partingMany m_qa m_qb m_la m_lb m_sa m_sb m_ta m_tb m_listed m_tells m_wanted m_found m_bits m_power2 m_rings m_ringA m_ringB m_seedNow m_tape m_has m_keptHas m_first m_second m_keptFirst m_keptSecond m_pa m_pb m_pNorm m_cubed m_isOpen m_la0 m_lb0 R (f_X11_sum_46 N k) ih m_ra m_rb m_signs m_often v1 v2 v4 v5 (((m_signs (v5).toNatClampNeg) + (m_signs (((v1 + (1 : Int32)) - v5)).toNatClampNeg)) - ((m_signs (v5).toNatClampNeg) + (m_signs (((v1 + (1 : Int32)) - v5)).toNatClampNeg)) / (3 : Int32) * (3 : Int32)) v3 (-1 : Int32) _ _ _ X (lv_sub hl [1, 2, 3, 5, 6, 0] rfl) hf
    refine x_iconst 82 C dX11_sum_81 (1 : Int32) kv_iconst_1 rfl ?_
    refine x_goto 96 C dX11_sum_82 rfl ?_
    exact w_X11_sum_96 h C N x m_taped m_states m_threes m_primes m_ones m_unit m_allParts m_allNorms m_allClasses m_odd m_boxWide m_boxHigh m_boxStep m_partingMany m_qa m_qb m_la m_lb m_sa m_sb m_ta m_tb m_listed m_tells m_wanted m_found m_bits m_power2 m_rings m_ringA m_ringB m_seedNow m_tape m_has m_keptHas m_first m_second m_keptFirst m_keptSecond m_pa m_pb m_pNorm m_cubed m_isOpen m_la0 m_lb0 R (f_X11_sum_46 N k) ih m_ra m_rb m_signs m_often v1 v2 v4 v5 (((m_signs (v5).toNatClampNeg) + (m_signs (((v1 + (1 : Int32)) - v5)).toNatClampNeg)) - ((m_signs (v5).toNatClampNeg) + (m_signs (((v1 + (1 : Int32)) - v5)).toNatClampNeg)) / (3 : Int32) * (3 : Int32)) v3 (1 : Int32) _ _ _ X (lv_sub hl [1, 2, 3, 5, 6, 0] rfl) hf
set_option maxHeartbeats 4000000 in
set_option maxRecDepth 100000 in
theorem c_X11_sum (l : Launch) (D : va_G) (T : KT) (h : Nat → Nat) (N : Nat) (v1 v2 : Int32) (m_taped m_states : Int32) (m_ra m_rb : Int64) (m_threes m_primes m_ones m_unit : Int32) (m_allParts m_allNorms m_allClasses : Int64) (m_odd : Int32) (m_boxWide m_boxHigh m_boxStep : Int64) (m_partingMany : Int32) (m_qa m_qb m_la m_lb m_sa m_sb m_ta m_tb : Int64) (m_listed m_tells m_wanted m_found : Int32) (m_bits : Int64) (m_power2 m_rings m_ringA m_ringB m_seedNow : Int32) (m_tape m_has m_keptHas m_first m_second m_keptFirst m_keptSecond m_pa m_pb m_pNorm m_cubed m_isOpen m_signs m_often m_la0 m_lb0 : Nat → Int32) (x : Int32 × Int64 × Int64 × (Nat → Int32) × (Nat → Int32)) (hf : f_X11_sum N v1 v2 m_ra m_rb m_signs m_often = some x) : kx_MI l yX11_sum cX11_sum 7 (some .int) 4 98 D T [.ref (h 0), .int v1, .int v2] (wM T h m_taped m_states m_ra m_rb m_threes m_primes m_ones m_unit m_allParts m_allNorms m_allClasses m_odd m_boxWide m_boxHigh m_boxStep m_partingMany m_qa m_qb m_la m_lb m_sa m_sb m_ta m_tb m_listed m_tells m_wanted m_found m_bits m_power2 m_rings m_ringA m_ringB m_seedNow m_tape m_has m_keptHas m_first m_second m_keptFirst m_keptSecond m_pa m_pb m_pNorm m_cubed m_isOpen m_signs m_often m_la0 m_lb0) (wM T h m_taped m_states x.2.1 x.2.2.1 m_threes m_primes m_ones m_unit m_allParts m_allNorms m_allClasses m_odd m_boxWide m_boxHigh m_boxStep m_partingMany m_qa m_qb m_la m_lb m_sa m_sb m_ta m_tb m_listed m_tells m_wanted m_found m_bits m_power2 m_rings m_ringA m_ringB m_seedNow m_tape m_has m_keptHas m_first m_second m_keptFirst m_keptSecond m_pa m_pb m_pNorm m_cubed m_isOpen x.2.2.2.1 x.2.2.2.2 m_la0 m_lb0) x.1 := by
  refine kx_ofMI RX11 rfl (plainFor_of_name (x := yX11_sum) kpn_X11) rfl ?_
  intro E A H ls _ C X R hl
  have hl : lv_has ls 7 [(0, .ref (h 0)), (1, .int v1), (2, .int v2)] := hl
  rw [f_X11_sum] at hf
  refine x_iload_n 1 C dX11_sum_0 hl 1 rfl rfl ?_
  obtain ⟨y1, hy1, hf⟩ := kx_bind hf
  refine x_callSi 4 C dX11_sum_1 X hl kl_X11_378 (c_X11_isThird E.2.1 D T  N v1  y1 hy1) [] rfl rfl rfl rfl rfl cb_7 rfl (fun H locs X => ?_)
  refine x_if_eq 19 7 C dX11_sum_4 rfl rfl hf (fun hf => ?_) (fun hf => ?_)
  · refine x_ldc 21 C dX11_sum_19 (-2147483648 : Int32) kc_X11_164 rfl ?_
    obtain rfl := Option.some.inj hf
    exact R _ _ _ _ X dX11_sum_21
  refine x_iload_n 8 C dX11_sum_7 hl 2 rfl rfl ?_
  refine x_i2l 9 C dX11_sum_8 rfl ?_
  refine x_lconst 10 C dX11_sum_9 (0 : Int64) kv_lconst_0 rfl ?_
  refine x_ldc2_w 13 C dX11_sum_10 (3 : Int64) kc_X11_134 rfl ?_
  obtain ⟨y13, hy13, hf⟩ := kx_bind hf
  refine x_callSi 16 C dX11_sum_13 X hl kl_X11_77 (c_X11_in E.2.1 D T  (v2).toInt64 (0 : Int64) (3 : Int64)  y13 hy13) [] rfl rfl rfl rfl rfl cb_7 rfl (fun H locs X => ?_)
  refine x_if_ne 22 19 C dX11_sum_16 rfl rfl hf (fun hf => ?_) (fun hf => ?_)
  · refine x_iload_n 23 C dX11_sum_22 hl 2 rfl rfl ?_
    refine x_iconst 24 C dX11_sum_23 (3 : Int32) kv_iconst_3 rfl ?_
    refine x_icmp_ne 33 27 C dX11_sum_24 rfl rfl hf (fun hf => ?_) (fun hf => ?_)
    · refine x_aload_n 34 C dX11_sum_33 hl 0 rfl rfl ?_
      refine x_iload_n 35 C dX11_sum_34 hl 1 rfl rfl ?_
      obtain ⟨y35, hy35, hf⟩ := kx_bind hf
      refine x_callVv0 38 C dX11_sum_35 X hl kl_X11_388 (c_X11_laysSigns E.2.1 D T h N v1 m_taped m_states m_ra m_rb m_threes m_primes m_ones m_unit m_allParts m_allNorms m_allClasses m_odd m_boxWide m_boxHigh m_boxStep m_partingMany m_qa m_qb m_la m_lb m_sa m_sb m_ta m_tb m_listed m_tells m_wanted m_found m_bits m_power2 m_rings m_ringA m_ringB m_seedNow m_tape m_has m_keptHas m_first m_second m_keptFirst m_keptSecond m_pa m_pb m_pNorm m_cubed m_isOpen m_signs m_often m_la0 m_lb0 y35 hy35) rfl rfl [] rfl rfl rfl rfl rfl rfl (fun H locs X => ?_)
      refine x_iconst 39 C dX11_sum_38 (0 : Int32) kv_iconst_0 rfl ?_
      refine x_istore_n 40 C dX11_sum_39 [(3, .int (0 : Int32)), (0, .ref (h 0)), (1, .int v1), (2, .int v2)] hl rfl rfl rfl (fun ls hl => ?_)
      refine x_iconst 41 C dX11_sum_40 (0 : Int32) kv_iconst_0 rfl ?_
      refine x_istore 43 C dX11_sum_41 [(4, .int (0 : Int32)), (3, .int (0 : Int32)), (0, .ref (h 0)), (1, .int v1), (2, .int v2)] hl rfl rfl rfl (fun ls hl => ?_)
      refine x_iconst 44 C dX11_sum_43 (2 : Int32) kv_iconst_2 rfl ?_
      refine x_istore 46 C dX11_sum_44 [(5, .int (2 : Int32)), (4, .int (0 : Int32)), (3, .int (0 : Int32)), (0, .ref (h 0)), (1, .int v1), (2, .int v2)] hl rfl rfl rfl (fun ls hl => ?_)
      exact w_X11_sum_46 h C N x m_taped m_states m_threes m_primes m_ones m_unit m_allParts m_allNorms m_allClasses m_odd m_boxWide m_boxHigh m_boxStep m_partingMany m_qa m_qb m_la m_lb m_sa m_sb m_ta m_tb m_listed m_tells m_wanted m_found m_bits m_power2 m_rings m_ringA m_ringB m_seedNow m_tape m_has m_keptHas m_first m_second m_keptFirst m_keptSecond m_pa m_pb m_pNorm m_cubed m_isOpen m_la0 m_lb0 R  N y35.1 y35.2.1 y35.2.2 m_often v1 v2 (0 : Int32) (0 : Int32) (2 : Int32) _ _ _ X (lv_sub hl [3, 4, 5, 2, 1, 0] rfl) hf
    refine x_aload_n 28 C dX11_sum_27 hl 0 rfl rfl ?_
    refine x_iload_n 29 C dX11_sum_28 hl 1 rfl rfl ?_
    obtain ⟨y29, hy29, hf⟩ := kx_bind hf
    refine x_callVi0 32 C dX11_sum_29 X hl kl_X11_385 (c_X11_pointsOf E.2.1 D T h N v1 m_taped m_states m_ra m_rb m_threes m_primes m_ones m_unit m_allParts m_allNorms m_allClasses m_odd m_boxWide m_boxHigh m_boxStep m_partingMany m_qa m_qb m_la m_lb m_sa m_sb m_ta m_tb m_listed m_tells m_wanted m_found m_bits m_power2 m_rings m_ringA m_ringB m_seedNow m_tape m_has m_keptHas m_first m_second m_keptFirst m_keptSecond m_pa m_pb m_pNorm m_cubed m_isOpen m_signs m_often m_la0 m_lb0 y29 hy29) rfl rfl [] rfl rfl rfl rfl rfl rfl (fun H locs X => ?_)
    obtain rfl := Option.some.inj hf
    exact R _ _ _ _ X dX11_sum_32
  refine x_ldc 21 C dX11_sum_19 (-2147483648 : Int32) kc_X11_164 rfl ?_
  obtain rfl := Option.some.inj hf
  exact R _ _ _ _ X dX11_sum_21
