set_option maxHeartbeats 4000000 in
set_option maxRecDepth 100000 in
theorem w_X11_greatest_156 {E : KE} {A : Nat → Prop} {D : va_G} {T : KT} (h : Nat → Nat) (C : kx_C E cX11_greatest 7 (some .int) RX11 7 199 D T) (N : Nat) (x : Int32 × Int64 × Int64 × Int64 × Int64 × Int64 × (Nat → Int32)) (m_taped m_states m_threes m_primes m_ones m_unit : Int32) (m_allParts m_allNorms m_allClasses : Int64) (m_odd m_partingMany : Int32) (m_qa m_qb m_la m_lb m_sa m_sb m_ta m_tb : Int64) (m_listed m_tells m_wanted m_found : Int32) (m_bits : Int64) (m_power2 m_rings m_ringA m_ringB m_seedNow : Int32) (m_tape m_has m_keptHas m_first m_second m_keptFirst m_keptSecond m_pa m_pb m_pNorm m_cubed m_signs m_often m_la0 m_lb0 : Nat → Int32) (R : kx_RI E cX11_greatest D A (wM T h m_taped m_states x.2.1 x.2.2.1 m_threes m_primes m_ones m_unit m_allParts m_allNorms m_allClasses m_odd x.2.2.2.1 x.2.2.2.2.1 x.2.2.2.2.2.1 m_partingMany m_qa m_qb m_la m_lb m_sa m_sb m_ta m_tb m_listed m_tells m_wanted m_found m_bits m_power2 m_rings m_ringA m_ringB m_seedNow m_tape m_has m_keptHas m_first m_second m_keptFirst m_keptSecond m_pa m_pb m_pNorm m_cubed x.2.2.2.2.2.2 m_signs m_often m_la0 m_lb0) x.1) (k89 : Int32 → Int32 → Int32 → Int32 → Int64 → Int64 → Int64 → Int64 → Int64 → (Nat → Int32) → Option (Int32 × Int64 × Int64 × Int64 × Int64 × Int64 × (Nat → Int32))) (hk89 : ∀ (m_ra m_rb m_boxWide m_boxHigh m_boxStep : Int64) (m_isOpen : Nat → Int32) (v2 v3 v4 v5 : Int32) (H : Heap) (locs : List Loc) (ls : Array Slot), kx_H E D A H locs (wM T h m_taped m_states m_ra m_rb m_threes m_primes m_ones m_unit m_allParts m_allNorms m_allClasses m_odd m_boxWide m_boxHigh m_boxStep m_partingMany m_qa m_qb m_la m_lb m_sa m_sb m_ta m_tb m_listed m_tells m_wanted m_found m_bits m_power2 m_rings m_ringA m_ringB m_seedNow m_tape m_has m_keptHas m_first m_second m_keptFirst m_keptSecond m_pa m_pb m_pNorm m_cubed m_isOpen m_signs m_often m_la0 m_lb0) → lv_has ls 7 [(0, .ref (h 0)), (2, .int v2), (3, .int v3), (4, .int v4), (5, .int v5)] → k89 v2 v3 v4 v5 m_ra m_rb m_boxWide m_boxHigh m_boxStep m_isOpen = some x → kx_W E H locs 89 ls []) : ∀ (m_ra m_rb m_boxWide m_boxHigh m_boxStep : Int64) (m_isOpen : Nat → Int32) (v2 v3 v5 v6 s0 : Int32) (H : Heap) (locs : List Loc) (ls : Array Slot), kx_H E D A H locs (wM T h m_taped m_states m_ra m_rb m_threes m_primes m_ones m_unit m_allParts m_allNorms m_allClasses m_odd m_boxWide m_boxHigh m_boxStep m_partingMany m_qa m_qb m_la m_lb m_sa m_sb m_ta m_tb m_listed m_tells m_wanted m_found m_bits m_power2 m_rings m_ringA m_ringB m_seedNow m_tape m_has m_keptHas m_first m_second m_keptFirst m_keptSecond m_pa m_pb m_pNorm m_cubed m_isOpen m_signs m_often m_la0 m_lb0) → lv_has ls 7 [(0, .ref (h 0)), (2, .int v2), (3, .int v3), (5, .int v5), (6, .int v6)] → f_X11_greatest_156 N k89 v2 v3 v5 v6 s0 m_ra m_rb m_boxWide m_boxHigh m_boxStep m_isOpen = some x → kx_W E H locs 156 ls [.int s0] := by
  intro m_ra m_rb m_boxWide m_boxHigh m_boxStep m_isOpen v2 v3 v5 v6 s0 H locs ls X hl hf
  rw [f_X11_greatest_156] at hf
  refine x_istore 158 C dX11_greatest_156 [(4, .int s0), (0, .ref (h 0)), (2, .int v2), (3, .int v3), (5, .int v5), (6, .int v6)] hl rfl rfl rfl (fun ls hl => ?_)
  refine x_iload 160 C dX11_greatest_158 hl 5 rfl rfl ?_
  refine x_iload_n 161 C dX11_greatest_160 hl 3 rfl rfl ?_
  refine x_icmp_le 169 164 C dX11_greatest_161 rfl rfl hf (fun hf => ?_) (fun hf => ?_)
  · refine x_iload_n 170 C dX11_greatest_169 hl 3 rfl rfl ?_
    refine x_istore_n 171 C dX11_greatest_170 [(3, .int v3), (4, .int s0), (0, .ref (h 0)), (2, .int v2), (5, .int v5), (6, .int v6)] hl rfl rfl rfl (fun ls hl => ?_)
    refine x_iinc 174 C dX11_greatest_171 (1 : Int32) kv_iconst_1 [(5, .int (v5 + (1 : Int32))), (3, .int v3), (4, .int s0), (0, .ref (h 0)), (2, .int v2), (6, .int v6)] hl 4 rfl rfl rfl rfl (fun ls hl => ?_)
    refine x_goto 89 C dX11_greatest_174 rfl ?_
    exact hk89 m_ra m_rb m_boxWide m_boxHigh m_boxStep m_isOpen v2 v3 s0 (v5 + (1 : Int32)) _ _ _ X (lv_sub hl [3, 4, 1, 2, 0] rfl) hf
  refine x_iload 166 C dX11_greatest_164 hl 5 rfl rfl ?_
  refine x_goto 170 C dX11_greatest_166 rfl ?_
  refine x_istore_n 171 C dX11_greatest_170 [(3, .int v6), (4, .int s0), (0, .ref (h 0)), (2, .int v2), (5, .int v5), (6, .int v6)] hl rfl rfl rfl (fun ls hl => ?_)
  refine x_iinc 174 C dX11_greatest_171 (1 : Int32) kv_iconst_1 [(5, .int (v5 + (1 : Int32))), (3, .int v6), (4, .int s0), (0, .ref (h 0)), (2, .int v2), (6, .int v6)] hl 4 rfl rfl rfl rfl (fun ls hl => ?_)
  refine x_goto 89 C dX11_greatest_174 rfl ?_
  exact hk89 m_ra m_rb m_boxWide m_boxHigh m_boxStep m_isOpen v2 v6 s0 (v5 + (1 : Int32)) _ _ _ X (lv_sub hl [3, 4, 1, 2, 0] rfl) hf
set_option maxHeartbeats 4000000 in
set_option maxRecDepth 100000 in
theorem w_X11_greatest_89 {E : KE} {A : Nat → Prop} {D : va_G} {T : KT} (h : Nat → Nat) (C : kx_C E cX11_greatest 7 (some .int) RX11 7 199 D T) (N : Nat) (x : Int32 × Int64 × Int64 × Int64 × Int64 × Int64 × (Nat → Int32)) (m_taped m_states m_threes m_primes m_ones m_unit : Int32) (m_allParts m_allNorms m_allClasses : Int64) (m_odd m_partingMany : Int32) (m_qa m_qb m_la m_lb m_sa m_sb m_ta m_tb : Int64) (m_listed m_tells m_wanted m_found : Int32) (m_bits : Int64) (m_power2 m_rings m_ringA m_ringB m_seedNow : Int32) (m_tape m_has m_keptHas m_first m_second m_keptFirst m_keptSecond m_pa m_pb m_pNorm m_cubed m_signs m_often m_la0 m_lb0 : Nat → Int32) (R : kx_RI E cX11_greatest D A (wM T h m_taped m_states x.2.1 x.2.2.1 m_threes m_primes m_ones m_unit m_allParts m_allNorms m_allClasses m_odd x.2.2.2.1 x.2.2.2.2.1 x.2.2.2.2.2.1 m_partingMany m_qa m_qb m_la m_lb m_sa m_sb m_ta m_tb m_listed m_tells m_wanted m_found m_bits m_power2 m_rings m_ringA m_ringB m_seedNow m_tape m_has m_keptHas m_first m_second m_keptFirst m_keptSecond m_pa m_pb m_pNorm m_cubed x.2.2.2.2.2.2 m_signs m_often m_la0 m_lb0) x.1) : ∀ (k : Nat), ∀ (m_ra m_rb m_boxWide m_boxHigh m_boxStep : Int64) (m_isOpen : Nat → Int32) (v2 v3 v4 v5 : Int32) (H : Heap) (locs : List Loc) (ls : Array Slot), kx_H E D A H locs (wM T h m_taped m_states m_ra m_rb m_threes m_primes m_ones m_unit m_allParts m_allNorms m_allClasses m_odd m_boxWide m_boxHigh m_boxStep m_partingMany m_qa m_qb m_la m_lb m_sa m_sb m_ta m_tb m_listed m_tells m_wanted m_found m_bits m_power2 m_rings m_ringA m_ringB m_seedNow m_tape m_has m_keptHas m_first m_second m_keptFirst m_keptSecond m_pa m_pb m_pNorm m_cubed m_isOpen m_signs m_often m_la0 m_lb0) → lv_has ls 7 [(0, .ref (h 0)), (2, .int v2), (3, .int v3), (4, .int v4), (5, .int v5)] → f_X11_greatest_89 N k v2 v3 v4 v5 m_ra m_rb m_boxWide m_boxHigh m_boxStep m_isOpen = some x → kx_W E H locs 89 ls [] := by
  intro k
  induction k with
  | zero =>
    intro m_ra m_rb m_boxWide m_boxHigh m_boxStep m_isOpen v2 v3 v4 v5 H locs ls X hl hf
    cases (show (none : Option (Int32 × Int64 × Int64 × Int64 × Int64 × Int64 × (Nat → Int32))) = some x from hf)
  | succ k ih =>
    intro m_ra m_rb m_boxWide m_boxHigh m_boxStep m_isOpen v2 v3 v4 v5 H locs ls X hl hf
    rw [f_X11_greatest_89] at hf
    refine x_iload 91 C dX11_greatest_89 hl 4 rfl rfl ?_
    refine x_aload_n 92 C dX11_greatest_91 hl 0 rfl rfl ?_
    obtain ⟨y92, hy92, hf⟩ := kx_bind hf
    refine x_callVi0 95 C dX11_greatest_92 X hl kl_X11_321 (c_X11_classesNow E.2.1 D T h  m_taped m_states m_ra m_rb m_threes m_primes m_ones m_unit m_allParts m_allNorms m_allClasses m_odd m_boxWide m_boxHigh m_boxStep m_partingMany m_qa m_qb m_la m_lb m_sa m_sb m_ta m_tb m_listed m_tells m_wanted m_found m_bits m_power2 m_rings m_ringA m_ringB m_seedNow m_tape m_has m_keptHas m_first m_second m_keptFirst m_keptSecond m_pa m_pb m_pNorm m_cubed m_isOpen m_signs m_often m_la0 m_lb0 y92 hy92) rfl rfl [.int v5] rfl rfl rfl rfl rfl rfl (fun H locs X => ?_)
    refine x_icmp_ge 177 98 C dX11_greatest_95 rfl rfl hf (fun hf => ?_) (fun hf => ?_)
    · refine x_iload_n 178 C dX11_greatest_177 hl 1 rfl rfl ?_
      refine x_if_ne 185 181 C dX11_greatest_178 rfl rfl hf (fun hf => ?_) (fun hf => ?_)
      · refine x_iload 187 C dX11_greatest_185 hl 3 rfl rfl ?_
        obtain rfl := Option.some.inj hf
        exact R _ _ _ _ X dX11_greatest_187
      refine x_iload_n 182 C dX11_greatest_181 hl 2 rfl rfl ?_
      refine x_goto 187 C dX11_greatest_182 rfl ?_
      obtain rfl := Option.some.inj hf
      exact R _ _ _ _ X dX11_greatest_187
    refine x_aload_n 99 C dX11_greatest_98 hl 0 rfl rfl ?_
    refine x_get 102 C dX11_greatest_99 X kf_X11_45 0 rfl rfl rfl ?_
    refine x_iload 104 C dX11_greatest_102 hl 4 rfl rfl ?_
    refine x_zald 105 C dX11_greatest_104 X 12 rfl hf rfl (fun hf => ?_)
    refine x_if_ne 111 108 C dX11_greatest_105 rfl rfl hf (fun hf => ?_) (fun hf => ?_)
    · refine x_aload_n 112 C dX11_greatest_111 hl 0 rfl rfl ?_
      refine x_iload 114 C dX11_greatest_112 hl 4 rfl rfl ?_
      obtain ⟨y114, hy114, hf⟩ := kx_bind hf
      refine x_callVv0 117 C dX11_greatest_114 X hl kl_X11_318 (c_X11_comes E.2.1 D T h v5 m_taped m_states m_ra m_rb m_threes m_primes m_ones m_unit m_allParts m_allNorms m_allClasses m_odd m_boxWide m_boxHigh m_boxStep m_partingMany m_qa m_qb m_la m_lb m_sa m_sb m_ta m_tb m_listed m_tells m_wanted m_found m_bits m_power2 m_rings m_ringA m_ringB m_seedNow m_tape m_has m_keptHas m_first m_second m_keptFirst m_keptSecond m_pa m_pb m_pNorm m_cubed m_isOpen m_signs m_often m_la0 m_lb0 y114 hy114) rfl rfl [] rfl rfl rfl rfl rfl rfl (fun H locs X => ?_)
      refine x_aload_n 118 C dX11_greatest_117 hl 0 rfl rfl ?_
      refine x_aload_n 119 C dX11_greatest_118 hl 0 rfl rfl ?_
      refine x_get 122 C dX11_greatest_119 X kf_X11_105 0 rfl rfl rfl ?_
      refine x_aload_n 123 C dX11_greatest_122 hl 0 rfl rfl ?_
      refine x_get 126 C dX11_greatest_123 X kf_X11_109 0 rfl rfl rfl ?_
      obtain ⟨y126, hy126, hf⟩ := kx_bind hf
      refine x_callVi0 129 C dX11_greatest_126 X hl kl_X11_346 (c_X11_orderOf E.2.1 D T h N y114.1 y114.2 m_taped m_states y114.1 y114.2 m_threes m_primes m_ones m_unit m_allParts m_allNorms m_allClasses m_odd m_boxWide m_boxHigh m_boxStep m_partingMany m_qa m_qb m_la m_lb m_sa m_sb m_ta m_tb m_listed m_tells m_wanted m_found m_bits m_power2 m_rings m_ringA m_ringB m_seedNow m_tape m_has m_keptHas m_first m_second m_keptFirst m_keptSecond m_pa m_pb m_pNorm m_cubed m_isOpen m_signs m_often m_la0 m_lb0 y126 hy126) rfl rfl [] rfl rfl rfl rfl rfl rfl (fun H locs X => ?_)
      refine x_istore 131 C dX11_greatest_129 [(6, .int y126.1), (0, .ref (h 0)), (2, .int v2), (3, .int v3), (4, .int v4), (5, .int v5)] hl rfl rfl rfl (fun ls hl => ?_)
      refine x_iload 133 C dX11_greatest_131 hl 0 rfl rfl ?_
      refine x_iload_n 134 C dX11_greatest_133 hl 3 rfl rfl ?_
      refine x_icmp_le 141 137 C dX11_greatest_134 rfl rfl hf (fun hf => ?_) (fun hf => ?_)
      · refine x_iload 143 C dX11_greatest_141 hl 0 rfl rfl ?_
        refine x_iload_n 144 C dX11_greatest_143 hl 3 rfl rfl ?_
        refine x_icmp_ne 154 147 C dX11_greatest_144 rfl rfl hf (fun hf => ?_) (fun hf => ?_)
        · refine x_iload 156 C dX11_greatest_154 hl 4 rfl rfl ?_
          exact w_X11_greatest_156 h C N x m_taped m_states m_threes m_primes m_ones m_unit m_allParts m_allNorms m_allClasses m_odd m_partingMany m_qa m_qb m_la m_lb m_sa m_sb m_ta m_tb m_listed m_tells m_wanted m_found m_bits m_power2 m_rings m_ringA m_ringB m_seedNow m_tape m_has m_keptHas m_first m_second m_keptFirst m_keptSecond m_pa m_pb m_pNorm m_cubed m_signs m_often m_la0 m_lb0 R (f_X11_greatest_89 N k) ih y126.2.1 y126.2.2 m_boxWide m_boxHigh m_boxStep m_isOpen v2 v3 v5 y126.1 v4 _ _ _ X (lv_sub hl [1, 2, 3, 5, 0] rfl) hf
        refine x_iload 149 C dX11_greatest_147 hl 4 rfl rfl ?_
        refine x_iconst 150 C dX11_greatest_149 (1 : Int32) kv_iconst_1 rfl ?_
        refine x_iadd 151 C dX11_greatest_150 rfl ?_
        refine x_goto 156 C dX11_greatest_151 rfl ?_
        exact w_X11_greatest_156 h C N x m_taped m_states m_threes m_primes m_ones m_unit m_allParts m_allNorms m_allClasses m_odd m_partingMany m_qa m_qb m_la m_lb m_sa m_sb m_ta m_tb m_listed m_tells m_wanted m_found m_bits m_power2 m_rings m_ringA m_ringB m_seedNow m_tape m_has m_keptHas m_first m_second m_keptFirst m_keptSecond m_pa m_pb m_pNorm m_cubed m_signs m_often m_la0 m_lb0 R (f_X11_greatest_89 N k) ih y126.2.1 y126.2.2 m_boxWide m_boxHigh m_boxStep m_isOpen v2 v3 v5 y126.1 (v4 + (1 : Int32)) _ _ _ X (lv_sub hl [1, 2, 3, 5, 0] rfl) hf
      refine x_iconst 138 C dX11_greatest_137 (1 : Int32) kv_iconst_1 rfl ?_
      refine x_goto 156 C dX11_greatest_138 rfl ?_
      exact w_X11_greatest_156 h C N x m_taped m_states m_threes m_primes m_ones m_unit m_allParts m_allNorms m_allClasses m_odd m_partingMany m_qa m_qb m_la m_lb m_sa m_sb m_ta m_tb m_listed m_tells m_wanted m_found m_bits m_power2 m_rings m_ringA m_ringB m_seedNow m_tape m_has m_keptHas m_first m_second m_keptFirst m_keptSecond m_pa m_pb m_pNorm m_cubed m_signs m_often m_la0 m_lb0 R (f_X11_greatest_89 N k) ih y126.2.1 y126.2.2 m_boxWide m_boxHigh m_boxStep m_isOpen v2 v3 v5 y126.1 (1 : Int32) _ _ _ X (lv_sub hl [1, 2, 3, 5, 0] rfl) hf
    refine x_goto 171 C dX11_greatest_108 rfl ?_
    refine x_iinc 174 C dX11_greatest_171 (1 : Int32) kv_iconst_1 [(5, .int (v5 + (1 : Int32))), (0, .ref (h 0)), (2, .int v2), (3, .int v3), (4, .int v4)] hl 4 rfl rfl rfl rfl (fun ls hl => ?_)
    refine x_goto 89 C dX11_greatest_174 rfl ?_
    exact ih m_ra m_rb m_boxWide m_boxHigh m_boxStep m_isOpen v2 v3 v4 (v5 + (1 : Int32)) _ _ _ X (lv_sub hl [1, 2, 3, 4, 0] rfl) hf
set_option maxHeartbeats 4000000 in
set_option maxRecDepth 100000 in
theorem c_X11_greatest (l : Launch) (D : va_G) (T : KT) (h : Nat → Nat) (N : Nat) (v1 v2 : Int32) (m_taped m_states : Int32) (m_ra m_rb : Int64) (m_threes m_primes m_ones m_unit : Int32) (m_allParts m_allNorms m_allClasses : Int64) (m_odd : Int32) (m_boxWide m_boxHigh m_boxStep : Int64) (m_partingMany : Int32) (m_qa m_qb m_la m_lb m_sa m_sb m_ta m_tb : Int64) (m_listed m_tells m_wanted m_found : Int32) (m_bits : Int64) (m_power2 m_rings m_ringA m_ringB m_seedNow : Int32) (m_tape m_has m_keptHas m_first m_second m_keptFirst m_keptSecond m_pa m_pb m_pNorm m_cubed m_isOpen m_signs m_often m_la0 m_lb0 : Nat → Int32) (x : Int32 × Int64 × Int64 × Int64 × Int64 × Int64 × (Nat → Int32)) (hf : f_X11_greatest N v1 v2 m_ra m_rb m_boxWide m_boxHigh m_boxStep m_has m_first m_second m_isOpen = some x) : kx_MI l yX11_greatest cX11_greatest 7 (some .int) 7 199 D T [.ref (h 0), .int v1, .int v2] (wM T h m_taped m_states m_ra m_rb m_threes m_primes m_ones m_unit m_allParts m_allNorms m_allClasses m_odd m_boxWide m_boxHigh m_boxStep m_partingMany m_qa m_qb m_la m_lb m_sa m_sb m_ta m_tb m_listed m_tells m_wanted m_found m_bits m_power2 m_rings m_ringA m_ringB m_seedNow m_tape m_has m_keptHas m_first m_second m_keptFirst m_keptSecond m_pa m_pb m_pNorm m_cubed m_isOpen m_signs m_often m_la0 m_lb0) (wM T h m_taped m_states x.2.1 x.2.2.1 m_threes m_primes m_ones m_unit m_allParts m_allNorms m_allClasses m_odd x.2.2.2.1 x.2.2.2.2.1 x.2.2.2.2.2.1 m_partingMany m_qa m_qb m_la m_lb m_sa m_sb m_ta m_tb m_listed m_tells m_wanted m_found m_bits m_power2 m_rings m_ringA m_ringB m_seedNow m_tape m_has m_keptHas m_first m_second m_keptFirst m_keptSecond m_pa m_pb m_pNorm m_cubed x.2.2.2.2.2.2 m_signs m_often m_la0 m_lb0) x.1 := by
  refine kx_ofMI RX11 rfl (plainFor_of_name (x := yX11_greatest) kpn_X11) rfl ?_
  intro E A H ls _ C X R hl
  have hl : lv_has ls 7 [(0, .ref (h 0)), (1, .int v1), (2, .int v2)] := hl
  rw [f_X11_greatest] at hf
  refine x_iload_n 1 C dX11_greatest_0 hl 1 rfl rfl ?_
  obtain ⟨y1, hy1, hf⟩ := kx_bind hf
  refine x_callSi 4 C dX11_greatest_1 X hl kl_X11_85 (c_X11_isDrawer E.2.1 D T  v1  y1 hy1) [] rfl rfl rfl rfl rfl cb_7 rfl (fun H locs X => ?_)
  refine x_if_eq 17 7 C dX11_greatest_4 rfl rfl hf (fun hf => ?_) (fun hf => ?_)
  · refine x_iconst 18 C dX11_greatest_17 (-1 : Int32) kv_iconst_m1 rfl ?_
    obtain rfl := Option.some.inj hf
    exact R _ _ _ _ X dX11_greatest_18
  refine x_iload_n 8 C dX11_greatest_7 hl 2 rfl rfl ?_
  refine x_i2l 9 C dX11_greatest_8 rfl ?_
  refine x_lconst 10 C dX11_greatest_9 (0 : Int64) kv_lconst_0 rfl ?_
  refine x_lconst 11 C dX11_greatest_10 (1 : Int64) kv_lconst_1 rfl ?_
  obtain ⟨y11, hy11, hf⟩ := kx_bind hf
  refine x_callSi 14 C dX11_greatest_11 X hl kl_X11_77 (c_X11_in E.2.1 D T  (v2).toInt64 (0 : Int64) (1 : Int64)  y11 hy11) [] rfl rfl rfl rfl rfl cb_7 rfl (fun H locs X => ?_)
  refine x_if_ne 19 17 C dX11_greatest_14 rfl rfl hf (fun hf => ?_) (fun hf => ?_)
  · refine x_aload_n 20 C dX11_greatest_19 hl 0 rfl rfl ?_
    refine x_get 23 C dX11_greatest_20 X kf_X11_13 0 rfl rfl rfl ?_
    refine x_iload_n 24 C dX11_greatest_23 hl 1 rfl rfl ?_
    refine x_zald 25 C dX11_greatest_24 X 2 rfl hf rfl (fun hf => ?_)
    refine x_if_ne 31 28 C dX11_greatest_25 rfl rfl hf (fun hf => ?_) (fun hf => ?_)
    · refine x_aload_n 32 C dX11_greatest_31 hl 0 rfl rfl ?_
      refine x_iload_n 33 C dX11_greatest_32 hl 1 rfl rfl ?_
      refine x_sipush 36 C dX11_greatest_33 (500 : Int32) kv_sipush_500 rfl ?_
      obtain ⟨y36, hy36, hf⟩ := kx_bind hf
      refine x_callVi0 39 C dX11_greatest_36 X hl kl_X11_331 (c_X11_isGreat E.2.1 D T h v1 (500 : Int32) m_taped m_states m_ra m_rb m_threes m_primes m_ones m_unit m_allParts m_allNorms m_allClasses m_odd m_boxWide m_boxHigh m_boxStep m_partingMany m_qa m_qb m_la m_lb m_sa m_sb m_ta m_tb m_listed m_tells m_wanted m_found m_bits m_power2 m_rings m_ringA m_ringB m_seedNow m_tape m_has m_keptHas m_first m_second m_keptFirst m_keptSecond m_pa m_pb m_pNorm m_cubed m_isOpen m_signs m_often m_la0 m_lb0 y36 hy36) rfl rfl [] rfl rfl rfl rfl rfl rfl (fun H locs X => ?_)
      refine x_if_eq 45 42 C dX11_greatest_39 rfl rfl hf (fun hf => ?_) (fun hf => ?_)
      · refine x_aload_n 46 C dX11_greatest_45 hl 0 rfl rfl ?_
        refine x_aload_n 47 C dX11_greatest_46 hl 0 rfl rfl ?_
        refine x_get 50 C dX11_greatest_47 X kf_X11_20 0 rfl rfl rfl ?_
        refine x_iload_n 51 C dX11_greatest_50 hl 1 rfl rfl ?_
        refine x_iald 52 C dX11_greatest_51 X 4 rfl hf rfl (fun hf => ?_)
        refine x_i2l 53 C dX11_greatest_52 rfl ?_
        refine x_aload_n 54 C dX11_greatest_53 hl 0 rfl rfl ?_
        refine x_get 57 C dX11_greatest_54 X kf_X11_24 0 rfl rfl rfl ?_
        refine x_iload_n 58 C dX11_greatest_57 hl 1 rfl rfl ?_
        refine x_iald 59 C dX11_greatest_58 X 5 rfl hf rfl (fun hf => ?_)
        refine x_i2l 60 C dX11_greatest_59 rfl ?_
        obtain ⟨y60, hy60, hf⟩ := kx_bind hf
        refine x_callVv0 63 C dX11_greatest_60 X hl kl_X11_273 (c_X11_laysBox E.2.1 D T h N ((m_first (v1).toNatClampNeg)).toInt64 ((m_second (v1).toNatClampNeg)).toInt64 m_taped m_states m_ra m_rb m_threes m_primes m_ones m_unit m_allParts m_allNorms m_allClasses m_odd m_boxWide m_boxHigh m_boxStep m_partingMany m_qa m_qb m_la m_lb m_sa m_sb m_ta m_tb m_listed m_tells m_wanted m_found m_bits m_power2 m_rings m_ringA m_ringB m_seedNow m_tape m_has m_keptHas m_first m_second m_keptFirst m_keptSecond m_pa m_pb m_pNorm m_cubed m_isOpen m_signs m_often m_la0 m_lb0 y60 hy60) rfl rfl [] rfl rfl rfl rfl rfl rfl (fun H locs X => ?_)
        refine x_aload_n 64 C dX11_greatest_63 hl 0 rfl rfl ?_
        refine x_aload_n 65 C dX11_greatest_64 hl 0 rfl rfl ?_
        refine x_get 68 C dX11_greatest_65 X kf_X11_20 0 rfl rfl rfl ?_
        refine x_iload_n 69 C dX11_greatest_68 hl 1 rfl rfl ?_
        refine x_iald 70 C dX11_greatest_69 X 4 rfl hf rfl (fun hf => ?_)
        refine x_i2l 71 C dX11_greatest_70 rfl ?_
        refine x_aload_n 72 C dX11_greatest_71 hl 0 rfl rfl ?_
        refine x_get 75 C dX11_greatest_72 X kf_X11_24 0 rfl rfl rfl ?_
        refine x_iload_n 76 C dX11_greatest_75 hl 1 rfl rfl ?_
        refine x_iald 77 C dX11_greatest_76 X 5 rfl hf rfl (fun hf => ?_)
        refine x_i2l 78 C dX11_greatest_77 rfl ?_
        obtain ⟨y78, hy78, hf⟩ := kx_bind hf
        refine x_callVv0 81 C dX11_greatest_78 X hl kl_X11_337 (c_X11_laysOpen E.2.1 D T h N ((m_first (v1).toNatClampNeg)).toInt64 ((m_second (v1).toNatClampNeg)).toInt64 m_taped m_states m_ra m_rb m_threes m_primes m_ones m_unit m_allParts m_allNorms m_allClasses m_odd y60.1 y60.2.1 y60.2.2 m_partingMany m_qa m_qb m_la m_lb m_sa m_sb m_ta m_tb m_listed m_tells m_wanted m_found m_bits m_power2 m_rings m_ringA m_ringB m_seedNow m_tape m_has m_keptHas m_first m_second m_keptFirst m_keptSecond m_pa m_pb m_pNorm m_cubed m_isOpen m_signs m_often m_la0 m_lb0 y78 hy78) rfl rfl [] rfl rfl rfl rfl rfl rfl (fun H locs X => ?_)
        refine x_iconst 82 C dX11_greatest_81 (0 : Int32) kv_iconst_0 rfl ?_
        refine x_istore_n 83 C dX11_greatest_82 [(3, .int (0 : Int32)), (0, .ref (h 0)), (1, .int v1), (2, .int v2)] hl rfl rfl rfl (fun ls hl => ?_)
        refine x_iconst 84 C dX11_greatest_83 (0 : Int32) kv_iconst_0 rfl ?_
        refine x_istore 86 C dX11_greatest_84 [(4, .int (0 : Int32)), (3, .int (0 : Int32)), (0, .ref (h 0)), (1, .int v1), (2, .int v2)] hl rfl rfl rfl (fun ls hl => ?_)
        refine x_iconst 87 C dX11_greatest_86 (0 : Int32) kv_iconst_0 rfl ?_
        refine x_istore 89 C dX11_greatest_87 [(5, .int (0 : Int32)), (4, .int (0 : Int32)), (3, .int (0 : Int32)), (0, .ref (h 0)), (1, .int v1), (2, .int v2)] hl rfl rfl rfl (fun ls hl => ?_)
        exact w_X11_greatest_89 h C N x m_taped m_states m_threes m_primes m_ones m_unit m_allParts m_allNorms m_allClasses m_odd m_partingMany m_qa m_qb m_la m_lb m_sa m_sb m_ta m_tb m_listed m_tells m_wanted m_found m_bits m_power2 m_rings m_ringA m_ringB m_seedNow m_tape m_has m_keptHas m_first m_second m_keptFirst m_keptSecond m_pa m_pb m_pNorm m_cubed m_signs m_often m_la0 m_lb0 R  N y78.1 y78.2.1 y60.1 y60.2.1 y60.2.2 y78.2.2 v2 (0 : Int32) (0 : Int32) (0 : Int32) _ _ _ X (lv_sub hl [3, 5, 2, 1, 0] rfl) hf
      refine x_bipush 44 C dX11_greatest_42 (-3 : Int32) kv_bipush_m3 rfl ?_
      obtain rfl := Option.some.inj hf
      exact R _ _ _ _ X dX11_greatest_44
    refine x_bipush 30 C dX11_greatest_28 (-2 : Int32) kv_bipush_m2 rfl ?_
    obtain rfl := Option.some.inj hf
    exact R _ _ _ _ X dX11_greatest_30
  refine x_iconst 18 C dX11_greatest_17 (-1 : Int32) kv_iconst_m1 rfl ?_
  obtain rfl := Option.some.inj hf
  exact R _ _ _ _ X dX11_greatest_18
set_option maxHeartbeats 4000000 in
set_option maxRecDepth 100000 in
theorem c_X5_isLessThan (l : Launch) (D : va_G) (T : KT) (h0 h1 : Nat)  (m_a m_b m_p1_a m_p1_b : Int64) (x : Int32) (hf : f_X5_isLessThan m_a m_b m_p1_a m_p1_b = some x) : kx_MI l yX5_isLessThan cX5_isLessThan 2 (some .boolean) 1 20 D T [.ref h0, .ref h1] (w12_X5 T h0 h1 m_a m_b m_p1_a m_p1_b) (w12_X5 T h0 h1 m_a m_b m_p1_a m_p1_b) x := by
  refine kx_ofMZ RX5 rfl (plainFor_of_name (x := yX5_isLessThan) kpn_X5) rfl ?_
  intro E A H ls _ C X R hl
  have hl : lv_has ls 2 [(0, .ref h0), (1, .ref h1)] := hl
  rw [f_X5_isLessThan] at hf
  refine x_aload_n 1 C dX5_isLessThan_0 hl 0 rfl rfl ?_
  obtain ⟨y1, hy1, hf⟩ := kx_bind hf
  refine x_callVl 4 C dX5_isLessThan_1 X hl kl_X5_22 (c_X5_norm E.2.1 D T h0  m_a m_b y1 hy1) rfl rfl [] rfl rfl rfl rfl rfl cb_69 rfl (fun H locs X => ?_)
  refine x_aload_n 5 C dX5_isLessThan_4 hl 1 rfl rfl ?_
  obtain ⟨y5, hy5, hf⟩ := kx_bind hf
  refine x_callVl 8 C dX5_isLessThan_5 X hl kl_X5_22 (c_X5_norm E.2.1 D T h1  m_p1_a m_p1_b y5 hy5) rfl rfl [.long y1] rfl rfl rfl rfl rfl cb_70 rfl (fun H locs X => ?_)
  refine x_lcmp_eq 30 9 12 C dX5_isLessThan_8 dX5_isLessThan_9 rfl rfl rfl hf (fun hf => ?_) (fun hf => ?_)
  · refine x_aload_n 31 C dX5_isLessThan_30 hl 0 rfl rfl ?_
    refine x_get 34 C dX5_isLessThan_31 X kf_X5_9 0 rfl rfl rfl ?_
    refine x_aload_n 35 C dX5_isLessThan_34 hl 1 rfl rfl ?_
    refine x_get 38 C dX5_isLessThan_35 X kf_X5_9 1 rfl rfl rfl ?_
    refine x_lcmp_eq 62 39 42 C dX5_isLessThan_38 dX5_isLessThan_39 rfl rfl rfl hf (fun hf => ?_) (fun hf => ?_)
    · refine x_aload_n 63 C dX5_isLessThan_62 hl 0 rfl rfl ?_
      refine x_get 66 C dX5_isLessThan_63 X kf_X5_15 0 rfl rfl rfl ?_
      refine x_aload_n 67 C dX5_isLessThan_66 hl 1 rfl rfl ?_
      refine x_get 70 C dX5_isLessThan_67 X kf_X5_15 1 rfl rfl rfl ?_
      refine x_lcmp_ge 78 71 74 C dX5_isLessThan_70 dX5_isLessThan_71 rfl rfl rfl hf (fun hf => ?_) (fun hf => ?_)
      · refine x_iconst 79 C dX5_isLessThan_78 (0 : Int32) kv_iconst_0 rfl ?_
        obtain rfl := Option.some.inj hf
        exact R _ _ _ _ X kb_0 dX5_isLessThan_79
      refine x_iconst 75 C dX5_isLessThan_74 (1 : Int32) kv_iconst_1 rfl ?_
      refine x_goto 79 C dX5_isLessThan_75 rfl ?_
      obtain rfl := Option.some.inj hf
      exact R _ _ _ _ X kb_1 dX5_isLessThan_79
    refine x_aload_n 43 C dX5_isLessThan_42 hl 0 rfl rfl ?_
    refine x_get 46 C dX5_isLessThan_43 X kf_X5_9 0 rfl rfl rfl ?_
    refine x_aload_n 47 C dX5_isLessThan_46 hl 1 rfl rfl ?_
    refine x_get 50 C dX5_isLessThan_47 X kf_X5_9 1 rfl rfl rfl ?_
    refine x_lcmp_ge 58 51 54 C dX5_isLessThan_50 dX5_isLessThan_51 rfl rfl rfl hf (fun hf => ?_) (fun hf => ?_)
    · refine x_iconst 59 C dX5_isLessThan_58 (0 : Int32) kv_iconst_0 rfl ?_
      refine x_goto 79 C dX5_isLessThan_59 rfl ?_
      obtain rfl := Option.some.inj hf
      exact R _ _ _ _ X kb_0 dX5_isLessThan_79
    refine x_iconst 55 C dX5_isLessThan_54 (1 : Int32) kv_iconst_1 rfl ?_
    refine x_goto 79 C dX5_isLessThan_55 rfl ?_
    obtain rfl := Option.some.inj hf
    exact R _ _ _ _ X kb_1 dX5_isLessThan_79
  refine x_aload_n 13 C dX5_isLessThan_12 hl 0 rfl rfl ?_
  obtain ⟨y13, hy13, hf⟩ := kx_bind hf
  refine x_callVl 16 C dX5_isLessThan_13 X hl kl_X5_22 (c_X5_norm E.2.1 D T h0  m_a m_b y13 hy13) rfl rfl [] rfl rfl rfl rfl rfl cb_69 rfl (fun H locs X => ?_)
  refine x_aload_n 17 C dX5_isLessThan_16 hl 1 rfl rfl ?_
  obtain ⟨y17, hy17, hf⟩ := kx_bind hf
  refine x_callVl 20 C dX5_isLessThan_17 X hl kl_X5_22 (c_X5_norm E.2.1 D T h1  m_p1_a m_p1_b y17 hy17) rfl rfl [.long y13] rfl rfl rfl rfl rfl cb_70 rfl (fun H locs X => ?_)
  refine x_lcmp_ge 28 21 24 C dX5_isLessThan_20 dX5_isLessThan_21 rfl rfl rfl hf (fun hf => ?_) (fun hf => ?_)
  · refine x_iconst 29 C dX5_isLessThan_28 (0 : Int32) kv_iconst_0 rfl ?_
    obtain rfl := Option.some.inj hf
    exact R _ _ _ _ X kb_0 dX5_isLessThan_29
  refine x_iconst 25 C dX5_isLessThan_24 (1 : Int32) kv_iconst_1 rfl ?_
  refine x_goto 29 C dX5_isLessThan_25 rfl ?_
  obtain rfl := Option.some.inj hf
  exact R _ _ _ _ X kb_1 dX5_isLessThan_29
set_option maxHeartbeats 4000000 in
set_option maxRecDepth 100000 in
theorem w_X10_leastAround_13 {E : KE} {A : Nat → Prop} {D : va_G} {T : KT} (h : Nat → Nat) (C : kx_C E cX10_leastAround 2 none RX10 2 41 D T) (N : Nat) (x : Int64 × Int64 × Int64 × Int64) (m_drawers_full m_drawers_kept : Int32) (m_drawers_partA m_drawers_partB m_drawers_keptA m_drawers_keptB m_drawers_keptFull : Nat → Int32) (m_tape_size m_tape_plain m_tape_omegas m_tape_end m_tape_place m_tape_plainTold m_tape_omegasTold : Int32) (m_tape_bytes : Nat → Int32) (m_euclid_count : Int32) (m_euclid_last_a m_euclid_last_b m_euclid_lastOfFirst_a m_euclid_lastOfFirst_b m_euclid_lastOfSecond_a m_euclid_lastOfSecond_b m_euclid_next_a m_euclid_next_b m_euclid_nextOfFirst_a m_euclid_nextOfFirst_b m_euclid_nextOfSecond_a m_euclid_nextOfSecond_b m_euclid_q_a m_euclid_q_b : Int64) (m_euclid_quotientA m_euclid_quotientB : Nat → Int64) (m_modulus_step m_modulus_width m_modulus_slant m_modulus_square_a m_modulus_square_b : Int64) (m_factors_count m_factors_threes m_factors_unit : Int32) (m_factors_primeA m_factors_primeB m_factors_norms : Nat → Int64) (m_factors_euclid_count : Int32) (m_factors_euclid_last_a m_factors_euclid_last_b m_factors_euclid_lastOfFirst_a m_factors_euclid_lastOfFirst_b m_factors_euclid_lastOfSecond_a m_factors_euclid_lastOfSecond_b m_factors_euclid_next_a m_factors_euclid_next_b m_factors_euclid_nextOfFirst_a m_factors_euclid_nextOfFirst_b m_factors_euclid_nextOfSecond_a m_factors_euclid_nextOfSecond_b m_factors_euclid_q_a m_factors_euclid_q_b : Int64) (m_factors_euclid_quotientA m_factors_euclid_quotientB : Nat → Int64) (m_factors_left_a m_factors_left_b m_factors_found_a m_factors_found_b m_factors_product_a m_factors_product_b : Int64) (m_primes_count : Int32) (m_primes_primeA m_primes_primeB : Nat → Int32) (m_primes_found_a m_primes_found_b : Int64) (m_rings_foundA m_rings_foundB m_rings_all m_rings_mostOfOneRow m_letters_count : Int32) (m_letters_bytes : Nat → Int32) (m_one_a m_one_b m_two_a m_two_b m_four_a m_four_b m_out_a m_out_b : Int64) (m_marks : Nat → Int32) (R : kx_RV E cX10_leastAround D A (wC T h m_drawers_full m_drawers_kept m_drawers_partA m_drawers_partB m_drawers_keptA m_drawers_keptB m_drawers_keptFull m_tape_size m_tape_plain m_tape_omegas m_tape_end m_tape_place m_tape_plainTold m_tape_omegasTold m_tape_bytes m_euclid_count m_euclid_last_a m_euclid_last_b m_euclid_lastOfFirst_a m_euclid_lastOfFirst_b m_euclid_lastOfSecond_a m_euclid_lastOfSecond_b m_euclid_next_a m_euclid_next_b m_euclid_nextOfFirst_a m_euclid_nextOfFirst_b m_euclid_nextOfSecond_a m_euclid_nextOfSecond_b m_euclid_q_a m_euclid_q_b m_euclid_quotientA m_euclid_quotientB m_modulus_step m_modulus_width m_modulus_slant m_modulus_square_a m_modulus_square_b m_factors_count m_factors_threes m_factors_unit m_factors_primeA m_factors_primeB m_factors_norms m_factors_euclid_count m_factors_euclid_last_a m_factors_euclid_last_b m_factors_euclid_lastOfFirst_a m_factors_euclid_lastOfFirst_b m_factors_euclid_lastOfSecond_a m_factors_euclid_lastOfSecond_b m_factors_euclid_next_a m_factors_euclid_next_b m_factors_euclid_nextOfFirst_a m_factors_euclid_nextOfFirst_b m_factors_euclid_nextOfSecond_a m_factors_euclid_nextOfSecond_b m_factors_euclid_q_a m_factors_euclid_q_b m_factors_euclid_quotientA m_factors_euclid_quotientB m_factors_left_a m_factors_left_b m_factors_found_a m_factors_found_b m_factors_product_a m_factors_product_b m_primes_count m_primes_primeA m_primes_primeB m_primes_found_a m_primes_found_b m_rings_foundA m_rings_foundB m_rings_all m_rings_mostOfOneRow m_letters_count m_letters_bytes m_one_a m_one_b m_two_a m_two_b x.1 x.2.1 m_four_a m_four_b m_out_a m_out_b x.2.2.1 x.2.2.2 m_marks)) : ∀ (k : Nat), ∀ (m_three_a m_three_b m_spare_a m_spare_b : Int64) (v1 : Int32) (H : Heap) (locs : List Loc) (ls : Array Slot), kx_H E D A H locs (wC T h m_drawers_full m_drawers_kept m_drawers_partA m_drawers_partB m_drawers_keptA m_drawers_keptB m_drawers_keptFull m_tape_size m_tape_plain m_tape_omegas m_tape_end m_tape_place m_tape_plainTold m_tape_omegasTold m_tape_bytes m_euclid_count m_euclid_last_a m_euclid_last_b m_euclid_lastOfFirst_a m_euclid_lastOfFirst_b m_euclid_lastOfSecond_a m_euclid_lastOfSecond_b m_euclid_next_a m_euclid_next_b m_euclid_nextOfFirst_a m_euclid_nextOfFirst_b m_euclid_nextOfSecond_a m_euclid_nextOfSecond_b m_euclid_q_a m_euclid_q_b m_euclid_quotientA m_euclid_quotientB m_modulus_step m_modulus_width m_modulus_slant m_modulus_square_a m_modulus_square_b m_factors_count m_factors_threes m_factors_unit m_factors_primeA m_factors_primeB m_factors_norms m_factors_euclid_count m_factors_euclid_last_a m_factors_euclid_last_b m_factors_euclid_lastOfFirst_a m_factors_euclid_lastOfFirst_b m_factors_euclid_lastOfSecond_a m_factors_euclid_lastOfSecond_b m_factors_euclid_next_a m_factors_euclid_next_b m_factors_euclid_nextOfFirst_a m_factors_euclid_nextOfFirst_b m_factors_euclid_nextOfSecond_a m_factors_euclid_nextOfSecond_b m_factors_euclid_q_a m_factors_euclid_q_b m_factors_euclid_quotientA m_factors_euclid_quotientB m_factors_left_a m_factors_left_b m_factors_found_a m_factors_found_b m_factors_product_a m_factors_product_b m_primes_count m_primes_primeA m_primes_primeB m_primes_found_a m_primes_found_b m_rings_foundA m_rings_foundB m_rings_all m_rings_mostOfOneRow m_letters_count m_letters_bytes m_one_a m_one_b m_two_a m_two_b m_three_a m_three_b m_four_a m_four_b m_out_a m_out_b m_spare_a m_spare_b m_marks) → lv_has ls 2 [(0, .ref (h 0)), (1, .int v1)] → f_X10_leastAround_13 N k v1 m_two_a m_two_b m_three_a m_three_b m_out_a m_out_b m_spare_a m_spare_b = some x → kx_W E H locs 13 ls [] := by
  intro k
  induction k with
  | zero =>
    intro m_three_a m_three_b m_spare_a m_spare_b v1 H locs ls X hl hf
    cases (show (none : Option (Int64 × Int64 × Int64 × Int64)) = some x from hf)
  | succ k ih =>
    intro m_three_a m_three_b m_spare_a m_spare_b v1 H locs ls X hl hf
    rw [f_X10_leastAround_13] at hf
    refine x_iload_n 14 C dX10_leastAround_13 hl 1 rfl rfl ?_
    refine x_bipush 16 C dX10_leastAround_14 (6 : Int32) kv_bipush_6 rfl ?_
    refine x_icmp_ge 80 19 C dX10_leastAround_16 rfl rfl hf (fun hf => ?_) (fun hf => ?_)
    · obtain rfl := Option.some.inj hf
      exact R _ _ _ _ X dX10_leastAround_80
    refine x_aload_n 20 C dX10_leastAround_19 hl 0 rfl rfl ?_
    refine x_get 23 C dX10_leastAround_20 X kf_X10_86 0 rfl rfl rfl ?_
    refine x_aload_n 24 C dX10_leastAround_23 hl 0 rfl rfl ?_
    refine x_get 27 C dX10_leastAround_24 X kf_X10_74 0 rfl rfl rfl ?_
    obtain ⟨y27, hy27, hf⟩ := kx_bind hf
    refine x_callVv 30 C dX10_leastAround_27 X hl kl_X10_186 (c_X5_copy E.2.1 D T (h 50) (h 46)  m_spare_a m_spare_b m_two_a m_two_b y27 hy27) rfl rfl [] rfl rfl rfl rfl rfl cb_60 rfl (fun H locs X => ?_)
    refine x_aload_n 31 C dX10_leastAround_30 hl 0 rfl rfl ?_
    refine x_get 34 C dX10_leastAround_31 X kf_X10_86 0 rfl rfl rfl ?_
    refine x_iload_n 35 C dX10_leastAround_34 hl 1 rfl rfl ?_
    obtain ⟨y35, hy35, hf⟩ := kx_bind hf
    refine x_callVv 38 C dX10_leastAround_35 X hl kl_X10_215 (c_X5_multiplyByUnit E.2.1 D T (h 50) N v1 y27.1 y27.2 y35 hy35) rfl rfl [] rfl rfl rfl rfl rfl cb_8 rfl (fun H locs X => ?_)
    refine x_aload_n 39 C dX10_leastAround_38 hl 0 rfl rfl ?_
    refine x_get 42 C dX10_leastAround_39 X kf_X10_86 0 rfl rfl rfl ?_
    refine x_aload_n 43 C dX10_leastAround_42 hl 0 rfl rfl ?_
    refine x_get 46 C dX10_leastAround_43 X kf_X10_83 0 rfl rfl rfl ?_
    obtain ⟨y46, hy46, hf⟩ := kx_bind hf
    refine x_callVv 49 C dX10_leastAround_46 X hl kl_X10_190 (c_X5_add E.2.1 D T (h 50) (h 49)  y35.1 y35.2 m_out_a m_out_b y46 hy46) rfl rfl [] rfl rfl rfl rfl rfl cb_112 rfl (fun H locs X => ?_)
    refine x_aload_n 50 C dX10_leastAround_49 hl 0 rfl rfl ?_
    refine x_get 53 C dX10_leastAround_50 X kf_X10_86 0 rfl rfl rfl ?_
    refine x_aload_n 54 C dX10_leastAround_53 hl 0 rfl rfl ?_
    refine x_get 57 C dX10_leastAround_54 X kf_X10_77 0 rfl rfl rfl ?_
    obtain ⟨y57, hy57, hf⟩ := kx_bind hf
    refine x_callVi 60 C dX10_leastAround_57 X hl kl_X10_352 (c_X5_isLessThan E.2.1 D T (h 50) (h 47)  y46.1 y46.2 m_three_a m_three_b y57 hy57) rfl rfl [] rfl rfl rfl rfl rfl cb_113 rfl (fun H locs X => ?_)
    refine x_if_eq 74 63 C dX10_leastAround_60 rfl rfl hf (fun hf => ?_) (fun hf => ?_)
    · refine x_iinc 77 C dX10_leastAround_74 (1 : Int32) kv_iconst_1 [(1, .int (v1 + (1 : Int32))), (0, .ref (h 0))] hl 1 rfl rfl rfl rfl (fun ls hl => ?_)
      refine x_goto 13 C dX10_leastAround_77 rfl ?_
      exact ih m_three_a m_three_b y46.1 y46.2 (v1 + (1 : Int32)) _ _ _ X (lv_sub hl [1, 0] rfl) hf
    refine x_aload_n 64 C dX10_leastAround_63 hl 0 rfl rfl ?_
    refine x_get 67 C dX10_leastAround_64 X kf_X10_77 0 rfl rfl rfl ?_
    refine x_aload_n 68 C dX10_leastAround_67 hl 0 rfl rfl ?_
    refine x_get 71 C dX10_leastAround_68 X kf_X10_86 0 rfl rfl rfl ?_
    obtain ⟨y71, hy71, hf⟩ := kx_bind hf
    refine x_callVv 74 C dX10_leastAround_71 X hl kl_X10_186 (c_X5_copy E.2.1 D T (h 47) (h 50)  m_three_a m_three_b y46.1 y46.2 y71 hy71) rfl rfl [] rfl rfl rfl rfl rfl cb_114 rfl (fun H locs X => ?_)
    refine x_iinc 77 C dX10_leastAround_74 (1 : Int32) kv_iconst_1 [(1, .int (v1 + (1 : Int32))), (0, .ref (h 0))] hl 1 rfl rfl rfl rfl (fun ls hl => ?_)
    refine x_goto 13 C dX10_leastAround_77 rfl ?_
    exact ih y71.1 y71.2 y46.1 y46.2 (v1 + (1 : Int32)) _ _ _ X (lv_sub hl [1, 0] rfl) hf
set_option maxHeartbeats 4000000 in
set_option maxRecDepth 100000 in
theorem c_X10_leastAround (l : Launch) (D : va_G) (T : KT) (h : Nat → Nat) (N : Nat)  (m_drawers_full m_drawers_kept : Int32) (m_drawers_partA m_drawers_partB m_drawers_keptA m_drawers_keptB m_drawers_keptFull : Nat → Int32) (m_tape_size m_tape_plain m_tape_omegas m_tape_end m_tape_place m_tape_plainTold m_tape_omegasTold : Int32) (m_tape_bytes : Nat → Int32) (m_euclid_count : Int32) (m_euclid_last_a m_euclid_last_b m_euclid_lastOfFirst_a m_euclid_lastOfFirst_b m_euclid_lastOfSecond_a m_euclid_lastOfSecond_b m_euclid_next_a m_euclid_next_b m_euclid_nextOfFirst_a m_euclid_nextOfFirst_b m_euclid_nextOfSecond_a m_euclid_nextOfSecond_b m_euclid_q_a m_euclid_q_b : Int64) (m_euclid_quotientA m_euclid_quotientB : Nat → Int64) (m_modulus_step m_modulus_width m_modulus_slant m_modulus_square_a m_modulus_square_b : Int64) (m_factors_count m_factors_threes m_factors_unit : Int32) (m_factors_primeA m_factors_primeB m_factors_norms : Nat → Int64) (m_factors_euclid_count : Int32) (m_factors_euclid_last_a m_factors_euclid_last_b m_factors_euclid_lastOfFirst_a m_factors_euclid_lastOfFirst_b m_factors_euclid_lastOfSecond_a m_factors_euclid_lastOfSecond_b m_factors_euclid_next_a m_factors_euclid_next_b m_factors_euclid_nextOfFirst_a m_factors_euclid_nextOfFirst_b m_factors_euclid_nextOfSecond_a m_factors_euclid_nextOfSecond_b m_factors_euclid_q_a m_factors_euclid_q_b : Int64) (m_factors_euclid_quotientA m_factors_euclid_quotientB : Nat → Int64) (m_factors_left_a m_factors_left_b m_factors_found_a m_factors_found_b m_factors_product_a m_factors_product_b : Int64) (m_primes_count : Int32) (m_primes_primeA m_primes_primeB : Nat → Int32) (m_primes_found_a m_primes_found_b : Int64) (m_rings_foundA m_rings_foundB m_rings_all m_rings_mostOfOneRow m_letters_count : Int32) (m_letters_bytes : Nat → Int32) (m_one_a m_one_b m_two_a m_two_b m_three_a m_three_b m_four_a m_four_b m_out_a m_out_b m_spare_a m_spare_b : Int64) (m_marks : Nat → Int32) (x : Int64 × Int64 × Int64 × Int64) (hf : f_X10_leastAround N m_two_a m_two_b m_out_a m_out_b m_spare_a m_spare_b = some x) : kx_MV l yX10_leastAround cX10_leastAround 2 none 2 41 D T [.ref (h 0)] (wC T h m_drawers_full m_drawers_kept m_drawers_partA m_drawers_partB m_drawers_keptA m_drawers_keptB m_drawers_keptFull m_tape_size m_tape_plain m_tape_omegas m_tape_end m_tape_place m_tape_plainTold m_tape_omegasTold m_tape_bytes m_euclid_count m_euclid_last_a m_euclid_last_b m_euclid_lastOfFirst_a m_euclid_lastOfFirst_b m_euclid_lastOfSecond_a m_euclid_lastOfSecond_b m_euclid_next_a m_euclid_next_b m_euclid_nextOfFirst_a m_euclid_nextOfFirst_b m_euclid_nextOfSecond_a m_euclid_nextOfSecond_b m_euclid_q_a m_euclid_q_b m_euclid_quotientA m_euclid_quotientB m_modulus_step m_modulus_width m_modulus_slant m_modulus_square_a m_modulus_square_b m_factors_count m_factors_threes m_factors_unit m_factors_primeA m_factors_primeB m_factors_norms m_factors_euclid_count m_factors_euclid_last_a m_factors_euclid_last_b m_factors_euclid_lastOfFirst_a m_factors_euclid_lastOfFirst_b m_factors_euclid_lastOfSecond_a m_factors_euclid_lastOfSecond_b m_factors_euclid_next_a m_factors_euclid_next_b m_factors_euclid_nextOfFirst_a m_factors_euclid_nextOfFirst_b m_factors_euclid_nextOfSecond_a m_factors_euclid_nextOfSecond_b m_factors_euclid_q_a m_factors_euclid_q_b m_factors_euclid_quotientA m_factors_euclid_quotientB m_factors_left_a m_factors_left_b m_factors_found_a m_factors_found_b m_factors_product_a m_factors_product_b m_primes_count m_primes_primeA m_primes_primeB m_primes_found_a m_primes_found_b m_rings_foundA m_rings_foundB m_rings_all m_rings_mostOfOneRow m_letters_count m_letters_bytes m_one_a m_one_b m_two_a m_two_b m_three_a m_three_b m_four_a m_four_b m_out_a m_out_b m_spare_a m_spare_b m_marks) (wC T h m_drawers_full m_drawers_kept m_drawers_partA m_drawers_partB m_drawers_keptA m_drawers_keptB m_drawers_keptFull m_tape_size m_tape_plain m_tape_omegas m_tape_end m_tape_place m_tape_plainTold m_tape_omegasTold m_tape_bytes m_euclid_count m_euclid_last_a m_euclid_last_b m_euclid_lastOfFirst_a m_euclid_lastOfFirst_b m_euclid_lastOfSecond_a m_euclid_lastOfSecond_b m_euclid_next_a m_euclid_next_b m_euclid_nextOfFirst_a m_euclid_nextOfFirst_b m_euclid_nextOfSecond_a m_euclid_nextOfSecond_b m_euclid_q_a m_euclid_q_b m_euclid_quotientA m_euclid_quotientB m_modulus_step m_modulus_width m_modulus_slant m_modulus_square_a m_modulus_square_b m_factors_count m_factors_threes m_factors_unit m_factors_primeA m_factors_primeB m_factors_norms m_factors_euclid_count m_factors_euclid_last_a m_factors_euclid_last_b m_factors_euclid_lastOfFirst_a m_factors_euclid_lastOfFirst_b m_factors_euclid_lastOfSecond_a m_factors_euclid_lastOfSecond_b m_factors_euclid_next_a m_factors_euclid_next_b m_factors_euclid_nextOfFirst_a m_factors_euclid_nextOfFirst_b m_factors_euclid_nextOfSecond_a m_factors_euclid_nextOfSecond_b m_factors_euclid_q_a m_factors_euclid_q_b m_factors_euclid_quotientA m_factors_euclid_quotientB m_factors_left_a m_factors_left_b m_factors_found_a m_factors_found_b m_factors_product_a m_factors_product_b m_primes_count m_primes_primeA m_primes_primeB m_primes_found_a m_primes_found_b m_rings_foundA m_rings_foundB m_rings_all m_rings_mostOfOneRow m_letters_count m_letters_bytes m_one_a m_one_b m_two_a m_two_b x.1 x.2.1 m_four_a m_four_b m_out_a m_out_b x.2.2.1 x.2.2.2 m_marks) := by
  refine kx_ofMV RX10 rfl (plainFor_of_name (x := yX10_leastAround) kpn_X10) rfl ?_
  intro E A H ls _ C X R hl
  have hl : lv_has ls 2 [(0, .ref (h 0))] := hl
  rw [f_X10_leastAround] at hf
  refine x_aload_n 1 C dX10_leastAround_0 hl 0 rfl rfl ?_
  refine x_get 4 C dX10_leastAround_1 X kf_X10_77 0 rfl rfl rfl ?_
  refine x_aload_n 5 C dX10_leastAround_4 hl 0 rfl rfl ?_
  refine x_get 8 C dX10_leastAround_5 X kf_X10_83 0 rfl rfl rfl ?_
  obtain ⟨y8, hy8, hf⟩ := kx_bind hf
  refine x_callVv 11 C dX10_leastAround_8 X hl kl_X10_186 (c_X5_copy E.2.1 D T (h 47) (h 49)  m_three_a m_three_b m_out_a m_out_b y8 hy8) rfl rfl [] rfl rfl rfl rfl rfl cb_115 rfl (fun H locs X => ?_)
  refine x_iconst 12 C dX10_leastAround_11 (0 : Int32) kv_iconst_0 rfl ?_
  refine x_istore_n 13 C dX10_leastAround_12 [(1, .int (0 : Int32)), (0, .ref (h 0))] hl rfl rfl rfl (fun ls hl => ?_)
  exact w_X10_leastAround_13 h C N x m_drawers_full m_drawers_kept m_drawers_partA m_drawers_partB m_drawers_keptA m_drawers_keptB m_drawers_keptFull m_tape_size m_tape_plain m_tape_omegas m_tape_end m_tape_place m_tape_plainTold m_tape_omegasTold m_tape_bytes m_euclid_count m_euclid_last_a m_euclid_last_b m_euclid_lastOfFirst_a m_euclid_lastOfFirst_b m_euclid_lastOfSecond_a m_euclid_lastOfSecond_b m_euclid_next_a m_euclid_next_b m_euclid_nextOfFirst_a m_euclid_nextOfFirst_b m_euclid_nextOfSecond_a m_euclid_nextOfSecond_b m_euclid_q_a m_euclid_q_b m_euclid_quotientA m_euclid_quotientB m_modulus_step m_modulus_width m_modulus_slant m_modulus_square_a m_modulus_square_b m_factors_count m_factors_threes m_factors_unit m_factors_primeA m_factors_primeB m_factors_norms m_factors_euclid_count m_factors_euclid_last_a m_factors_euclid_last_b m_factors_euclid_lastOfFirst_a m_factors_euclid_lastOfFirst_b m_factors_euclid_lastOfSecond_a m_factors_euclid_lastOfSecond_b m_factors_euclid_next_a m_factors_euclid_next_b m_factors_euclid_nextOfFirst_a m_factors_euclid_nextOfFirst_b m_factors_euclid_nextOfSecond_a m_factors_euclid_nextOfSecond_b m_factors_euclid_q_a m_factors_euclid_q_b m_factors_euclid_quotientA m_factors_euclid_quotientB m_factors_left_a m_factors_left_b m_factors_found_a m_factors_found_b m_factors_product_a m_factors_product_b m_primes_count m_primes_primeA m_primes_primeB m_primes_found_a m_primes_found_b m_rings_foundA m_rings_foundB m_rings_all m_rings_mostOfOneRow m_letters_count m_letters_bytes m_one_a m_one_b m_two_a m_two_b m_four_a m_four_b m_out_a m_out_b m_marks R  N y8.1 y8.2 m_spare_a m_spare_b (0 : Int32) _ _ _ X (lv_sub hl [1, 0] rfl) hf
set_option maxHeartbeats 4000000 in
set_option maxRecDepth 100000 in
theorem c_X10_least (l : Launch) (D : va_G) (T : KT) (h : Nat → Nat) (N : Nat) (v1 v2 v3 : Int32) (m_drawers_full m_drawers_kept : Int32) (m_drawers_partA m_drawers_partB m_drawers_keptA m_drawers_keptB m_drawers_keptFull : Nat → Int32) (m_tape_size m_tape_plain m_tape_omegas m_tape_end m_tape_place m_tape_plainTold m_tape_omegasTold : Int32) (m_tape_bytes : Nat → Int32) (m_euclid_count : Int32) (m_euclid_last_a m_euclid_last_b m_euclid_lastOfFirst_a m_euclid_lastOfFirst_b m_euclid_lastOfSecond_a m_euclid_lastOfSecond_b m_euclid_next_a m_euclid_next_b m_euclid_nextOfFirst_a m_euclid_nextOfFirst_b m_euclid_nextOfSecond_a m_euclid_nextOfSecond_b m_euclid_q_a m_euclid_q_b : Int64) (m_euclid_quotientA m_euclid_quotientB : Nat → Int64) (m_modulus_step m_modulus_width m_modulus_slant m_modulus_square_a m_modulus_square_b : Int64) (m_factors_count m_factors_threes m_factors_unit : Int32) (m_factors_primeA m_factors_primeB m_factors_norms : Nat → Int64) (m_factors_euclid_count : Int32) (m_factors_euclid_last_a m_factors_euclid_last_b m_factors_euclid_lastOfFirst_a m_factors_euclid_lastOfFirst_b m_factors_euclid_lastOfSecond_a m_factors_euclid_lastOfSecond_b m_factors_euclid_next_a m_factors_euclid_next_b m_factors_euclid_nextOfFirst_a m_factors_euclid_nextOfFirst_b m_factors_euclid_nextOfSecond_a m_factors_euclid_nextOfSecond_b m_factors_euclid_q_a m_factors_euclid_q_b : Int64) (m_factors_euclid_quotientA m_factors_euclid_quotientB : Nat → Int64) (m_factors_left_a m_factors_left_b m_factors_found_a m_factors_found_b m_factors_product_a m_factors_product_b : Int64) (m_primes_count : Int32) (m_primes_primeA m_primes_primeB : Nat → Int32) (m_primes_found_a m_primes_found_b : Int64) (m_rings_foundA m_rings_foundB m_rings_all m_rings_mostOfOneRow m_letters_count : Int32) (m_letters_bytes : Nat → Int32) (m_one_a m_one_b m_two_a m_two_b m_three_a m_three_b m_four_a m_four_b m_out_a m_out_b m_spare_a m_spare_b : Int64) (m_marks : Nat → Int32) (x : Int32 × Int32 × Int64 × Int64 × Int64 × Int64 × Int64 × Int64 × Int64 × Int64 × Int64 × Int64 × Int64 × Int64 × Int64 × Int64 × (Nat → Int64) × (Nat → Int64) × Int64 × Int64 × Int64 × Int64 × Int64 × Int64 × Int64 × Int64 × Int64 × Int64) (hf : f_X10_least N v1 v2 v3 m_drawers_full m_drawers_partA m_drawers_partB m_euclid_count m_euclid_last_a m_euclid_last_b m_euclid_lastOfFirst_a m_euclid_lastOfFirst_b m_euclid_lastOfSecond_a m_euclid_lastOfSecond_b m_euclid_next_a m_euclid_next_b m_euclid_nextOfFirst_a m_euclid_nextOfFirst_b m_euclid_nextOfSecond_a m_euclid_nextOfSecond_b m_euclid_q_a m_euclid_q_b m_euclid_quotientA m_euclid_quotientB m_one_a m_one_b m_two_a m_two_b m_three_a m_three_b m_out_a m_out_b m_spare_a m_spare_b = some x) : kx_MI l yX10_least cX10_least 4 (some .int) 5 109 D T [.ref (h 0), .int v1, .int v2, .int v3] (wC T h m_drawers_full m_drawers_kept m_drawers_partA m_drawers_partB m_drawers_keptA m_drawers_keptB m_drawers_keptFull m_tape_size m_tape_plain m_tape_omegas m_tape_end m_tape_place m_tape_plainTold m_tape_omegasTold m_tape_bytes m_euclid_count m_euclid_last_a m_euclid_last_b m_euclid_lastOfFirst_a m_euclid_lastOfFirst_b m_euclid_lastOfSecond_a m_euclid_lastOfSecond_b m_euclid_next_a m_euclid_next_b m_euclid_nextOfFirst_a m_euclid_nextOfFirst_b m_euclid_nextOfSecond_a m_euclid_nextOfSecond_b m_euclid_q_a m_euclid_q_b m_euclid_quotientA m_euclid_quotientB m_modulus_step m_modulus_width m_modulus_slant m_modulus_square_a m_modulus_square_b m_factors_count m_factors_threes m_factors_unit m_factors_primeA m_factors_primeB m_factors_norms m_factors_euclid_count m_factors_euclid_last_a m_factors_euclid_last_b m_factors_euclid_lastOfFirst_a m_factors_euclid_lastOfFirst_b m_factors_euclid_lastOfSecond_a m_factors_euclid_lastOfSecond_b m_factors_euclid_next_a m_factors_euclid_next_b m_factors_euclid_nextOfFirst_a m_factors_euclid_nextOfFirst_b m_factors_euclid_nextOfSecond_a m_factors_euclid_nextOfSecond_b m_factors_euclid_q_a m_factors_euclid_q_b m_factors_euclid_quotientA m_factors_euclid_quotientB m_factors_left_a m_factors_left_b m_factors_found_a m_factors_found_b m_factors_product_a m_factors_product_b m_primes_count m_primes_primeA m_primes_primeB m_primes_found_a m_primes_found_b m_rings_foundA m_rings_foundB m_rings_all m_rings_mostOfOneRow m_letters_count m_letters_bytes m_one_a m_one_b m_two_a m_two_b m_three_a m_three_b m_four_a m_four_b m_out_a m_out_b m_spare_a m_spare_b m_marks) (wC T h m_drawers_full m_drawers_kept m_drawers_partA m_drawers_partB m_drawers_keptA m_drawers_keptB m_drawers_keptFull m_tape_size m_tape_plain m_tape_omegas m_tape_end m_tape_place m_tape_plainTold m_tape_omegasTold m_tape_bytes x.2.1 x.2.2.1 x.2.2.2.1 x.2.2.2.2.1 x.2.2.2.2.2.1 x.2.2.2.2.2.2.1 x.2.2.2.2.2.2.2.1 x.2.2.2.2.2.2.2.2.1 x.2.2.2.2.2.2.2.2.2.1 x.2.2.2.2.2.2.2.2.2.2.1 x.2.2.2.2.2.2.2.2.2.2.2.1 x.2.2.2.2.2.2.2.2.2.2.2.2.1 x.2.2.2.2.2.2.2.2.2.2.2.2.2.1 x.2.2.2.2.2.2.2.2.2.2.2.2.2.2.1 x.2.2.2.2.2.2.2.2.2.2.2.2.2.2.2.1 x.2.2.2.2.2.2.2.2.2.2.2.2.2.2.2.2.1 x.2.2.2.2.2.2.2.2.2.2.2.2.2.2.2.2.2.1 m_modulus_step m_modulus_width m_modulus_slant m_modulus_square_a m_modulus_square_b m_factors_count m_factors_threes m_factors_unit m_factors_primeA m_factors_primeB m_factors_norms m_factors_euclid_count m_factors_euclid_last_a m_factors_euclid_last_b m_factors_euclid_lastOfFirst_a m_factors_euclid_lastOfFirst_b m_factors_euclid_lastOfSecond_a m_factors_euclid_lastOfSecond_b m_factors_euclid_next_a m_factors_euclid_next_b m_factors_euclid_nextOfFirst_a m_factors_euclid_nextOfFirst_b m_factors_euclid_nextOfSecond_a m_factors_euclid_nextOfSecond_b m_factors_euclid_q_a m_factors_euclid_q_b m_factors_euclid_quotientA m_factors_euclid_quotientB m_factors_left_a m_factors_left_b m_factors_found_a m_factors_found_b m_factors_product_a m_factors_product_b m_primes_count m_primes_primeA m_primes_primeB m_primes_found_a m_primes_found_b m_rings_foundA m_rings_foundB m_rings_all m_rings_mostOfOneRow m_letters_count m_letters_bytes x.2.2.2.2.2.2.2.2.2.2.2.2.2.2.2.2.2.2.1 x.2.2.2.2.2.2.2.2.2.2.2.2.2.2.2.2.2.2.2.1 x.2.2.2.2.2.2.2.2.2.2.2.2.2.2.2.2.2.2.2.2.1 x.2.2.2.2.2.2.2.2.2.2.2.2.2.2.2.2.2.2.2.2.2.1 x.2.2.2.2.2.2.2.2.2.2.2.2.2.2.2.2.2.2.2.2.2.2.1 x.2.2.2.2.2.2.2.2.2.2.2.2.2.2.2.2.2.2.2.2.2.2.2.1 m_four_a m_four_b x.2.2.2.2.2.2.2.2.2.2.2.2.2.2.2.2.2.2.2.2.2.2.2.2.1 x.2.2.2.2.2.2.2.2.2.2.2.2.2.2.2.2.2.2.2.2.2.2.2.2.2.1 x.2.2.2.2.2.2.2.2.2.2.2.2.2.2.2.2.2.2.2.2.2.2.2.2.2.2.1 x.2.2.2.2.2.2.2.2.2.2.2.2.2.2.2.2.2.2.2.2.2.2.2.2.2.2.2 m_marks) x.1 := by
  refine kx_ofMI RX10 rfl (plainFor_of_name (x := yX10_least) kpn_X10) rfl ?_
  intro E A H ls _ C X R hl
  have hl : lv_has ls 4 [(0, .ref (h 0)), (1, .int v1), (2, .int v2), (3, .int v3)] := hl
  rw [f_X10_least] at hf
  refine x_iload_n 1 C dX10_least_0 hl 3 rfl rfl ?_
  refine x_if_lt 23 4 C dX10_least_1 rfl rfl hf (fun hf => ?_) (fun hf => ?_)
  · refine x_iconst 24 C dX10_least_23 (-1 : Int32) kv_iconst_m1 rfl ?_
    obtain rfl := Option.some.inj hf
    exact R _ _ _ _ X dX10_least_24
  refine x_iload_n 5 C dX10_least_4 hl 3 rfl rfl ?_
  refine x_iconst 6 C dX10_least_5 (1 : Int32) kv_iconst_1 rfl ?_
  refine x_icmp_gt 23 9 C dX10_least_6 rfl rfl hf (fun hf => ?_) (fun hf => ?_)
  · refine x_iconst 24 C dX10_least_23 (-1 : Int32) kv_iconst_m1 rfl ?_
    obtain rfl := Option.some.inj hf
    exact R _ _ _ _ X dX10_least_24
  refine x_iload_n 10 C dX10_least_9 hl 1 rfl rfl ?_
  obtain ⟨y10, hy10, hf⟩ := kx_bind hf
  refine x_callSi 13 C dX10_least_10 X hl kl_X10_105 (c_X0_isOne E.2.1 D T  v1  y10 hy10) [] rfl rfl rfl rfl rfl cb_2 rfl (fun H locs X => ?_)
  refine x_if_eq 23 16 C dX10_least_13 rfl rfl hf (fun hf => ?_) (fun hf => ?_)
  · refine x_iconst 24 C dX10_least_23 (-1 : Int32) kv_iconst_m1 rfl ?_
    obtain rfl := Option.some.inj hf
    exact R _ _ _ _ X dX10_least_24
  refine x_iload_n 17 C dX10_least_16 hl 2 rfl rfl ?_
  obtain ⟨y17, hy17, hf⟩ := kx_bind hf
  refine x_callSi 20 C dX10_least_17 X hl kl_X10_105 (c_X0_isOne E.2.1 D T  v2  y17 hy17) [] rfl rfl rfl rfl rfl cb_2 rfl (fun H locs X => ?_)
  refine x_if_ne 25 23 C dX10_least_20 rfl rfl hf (fun hf => ?_) (fun hf => ?_)
  · refine x_aload_n 26 C dX10_least_25 hl 0 rfl rfl ?_
    refine x_iload_n 27 C dX10_least_26 hl 1 rfl rfl ?_
    refine x_iload_n 28 C dX10_least_27 hl 2 rfl rfl ?_
    obtain ⟨y28, hy28, hf⟩ := kx_bind hf
    refine x_callVi0 31 C dX10_least_28 X hl kl_X10_176 (c_X10_loadTwo E.2.1 D T h v1 v2 m_drawers_full m_drawers_kept m_drawers_partA m_drawers_partB m_drawers_keptA m_drawers_keptB m_drawers_keptFull m_tape_size m_tape_plain m_tape_omegas m_tape_end m_tape_place m_tape_plainTold m_tape_omegasTold m_tape_bytes m_euclid_count m_euclid_last_a m_euclid_last_b m_euclid_lastOfFirst_a m_euclid_lastOfFirst_b m_euclid_lastOfSecond_a m_euclid_lastOfSecond_b m_euclid_next_a m_euclid_next_b m_euclid_nextOfFirst_a m_euclid_nextOfFirst_b m_euclid_nextOfSecond_a m_euclid_nextOfSecond_b m_euclid_q_a m_euclid_q_b m_euclid_quotientA m_euclid_quotientB m_modulus_step m_modulus_width m_modulus_slant m_modulus_square_a m_modulus_square_b m_factors_count m_factors_threes m_factors_unit m_factors_primeA m_factors_primeB m_factors_norms m_factors_euclid_count m_factors_euclid_last_a m_factors_euclid_last_b m_factors_euclid_lastOfFirst_a m_factors_euclid_lastOfFirst_b m_factors_euclid_lastOfSecond_a m_factors_euclid_lastOfSecond_b m_factors_euclid_next_a m_factors_euclid_next_b m_factors_euclid_nextOfFirst_a m_factors_euclid_nextOfFirst_b m_factors_euclid_nextOfSecond_a m_factors_euclid_nextOfSecond_b m_factors_euclid_q_a m_factors_euclid_q_b m_factors_euclid_quotientA m_factors_euclid_quotientB m_factors_left_a m_factors_left_b m_factors_found_a m_factors_found_b m_factors_product_a m_factors_product_b m_primes_count m_primes_primeA m_primes_primeB m_primes_found_a m_primes_found_b m_rings_foundA m_rings_foundB m_rings_all m_rings_mostOfOneRow m_letters_count m_letters_bytes m_one_a m_one_b m_two_a m_two_b m_three_a m_three_b m_four_a m_four_b m_out_a m_out_b m_spare_a m_spare_b m_marks y28 hy28) rfl rfl [] rfl rfl rfl rfl rfl rfl (fun H locs X => ?_)
    refine x_if_ne 44 34 C dX10_least_31 rfl rfl hf (fun hf => ?_) (fun hf => ?_)
    · refine x_ldc 46 C dX10_least_44 (-2147483648 : Int32) kc_X10_140 rfl ?_
      obtain rfl := Option.some.inj hf
      exact R _ _ _ _ X dX10_least_46
    refine x_aload_n 35 C dX10_least_34 hl 0 rfl rfl ?_
    refine x_get 38 C dX10_least_35 X kf_X10_74 0 rfl rfl rfl ?_
    obtain ⟨y38, hy38, hf⟩ := kx_bind hf
    refine x_callVi 41 C dX10_least_38 X hl kl_X10_170 (c_X5_isNought E.2.1 D T (h 46)  y28.2.2.2.1 y28.2.2.2.2 y38 hy38) rfl rfl [] rfl rfl rfl rfl rfl cb_55 rfl (fun H locs X => ?_)
    refine x_if_eq 47 44 C dX10_least_41 rfl rfl hf (fun hf => ?_) (fun hf => ?_)
    · refine x_aload_n 48 C dX10_least_47 hl 0 rfl rfl ?_
      refine x_iconst 49 C dX10_least_48 (4 : Int32) kv_iconst_4 rfl ?_
      obtain ⟨y49, hy49, hf⟩ := kx_bind hf
      refine x_callVv0 52 C dX10_least_49 X hl kl_X10_180 (c_X10_reckon E.2.1 D T h N (4 : Int32) m_drawers_full m_drawers_kept m_drawers_partA m_drawers_partB m_drawers_keptA m_drawers_keptB m_drawers_keptFull m_tape_size m_tape_plain m_tape_omegas m_tape_end m_tape_place m_tape_plainTold m_tape_omegasTold m_tape_bytes m_euclid_count m_euclid_last_a m_euclid_last_b m_euclid_lastOfFirst_a m_euclid_lastOfFirst_b m_euclid_lastOfSecond_a m_euclid_lastOfSecond_b m_euclid_next_a m_euclid_next_b m_euclid_nextOfFirst_a m_euclid_nextOfFirst_b m_euclid_nextOfSecond_a m_euclid_nextOfSecond_b m_euclid_q_a m_euclid_q_b m_euclid_quotientA m_euclid_quotientB m_modulus_step m_modulus_width m_modulus_slant m_modulus_square_a m_modulus_square_b m_factors_count m_factors_threes m_factors_unit m_factors_primeA m_factors_primeB m_factors_norms m_factors_euclid_count m_factors_euclid_last_a m_factors_euclid_last_b m_factors_euclid_lastOfFirst_a m_factors_euclid_lastOfFirst_b m_factors_euclid_lastOfSecond_a m_factors_euclid_lastOfSecond_b m_factors_euclid_next_a m_factors_euclid_next_b m_factors_euclid_nextOfFirst_a m_factors_euclid_nextOfFirst_b m_factors_euclid_nextOfSecond_a m_factors_euclid_nextOfSecond_b m_factors_euclid_q_a m_factors_euclid_q_b m_factors_euclid_quotientA m_factors_euclid_quotientB m_factors_left_a m_factors_left_b m_factors_found_a m_factors_found_b m_factors_product_a m_factors_product_b m_primes_count m_primes_primeA m_primes_primeB m_primes_found_a m_primes_found_b m_rings_foundA m_rings_foundB m_rings_all m_rings_mostOfOneRow m_letters_count m_letters_bytes y28.2.1 y28.2.2.1 y28.2.2.2.1 y28.2.2.2.2 m_three_a m_three_b m_four_a m_four_b m_out_a m_out_b m_spare_a m_spare_b m_marks y49 hy49) rfl rfl [] rfl rfl rfl rfl rfl rfl (fun H locs X => ?_)
      refine x_aload_n 53 C dX10_least_52 hl 0 rfl rfl ?_
      obtain ⟨y53, hy53, hf⟩ := kx_bind hf
      refine x_callVv0 56 C dX10_least_53 X hl kl_X10_349 (c_X10_leastAround E.2.1 D T h N  m_drawers_full m_drawers_kept m_drawers_partA m_drawers_partB m_drawers_keptA m_drawers_keptB m_drawers_keptFull m_tape_size m_tape_plain m_tape_omegas m_tape_end m_tape_place m_tape_plainTold m_tape_omegasTold m_tape_bytes y49.1 y49.2.1 y49.2.2.1 y49.2.2.2.1 y49.2.2.2.2.1 y49.2.2.2.2.2.1 y49.2.2.2.2.2.2.1 y49.2.2.2.2.2.2.2.1 y49.2.2.2.2.2.2.2.2.1 y49.2.2.2.2.2.2.2.2.2.1 y49.2.2.2.2.2.2.2.2.2.2.1 y49.2.2.2.2.2.2.2.2.2.2.2.1 y49.2.2.2.2.2.2.2.2.2.2.2.2.1 y49.2.2.2.2.2.2.2.2.2.2.2.2.2.1 y49.2.2.2.2.2.2.2.2.2.2.2.2.2.2.1 y49.2.2.2.2.2.2.2.2.2.2.2.2.2.2.2.1 y49.2.2.2.2.2.2.2.2.2.2.2.2.2.2.2.2.1 m_modulus_step m_modulus_width m_modulus_slant m_modulus_square_a m_modulus_square_b m_factors_count m_factors_threes m_factors_unit m_factors_primeA m_factors_primeB m_factors_norms m_factors_euclid_count m_factors_euclid_last_a m_factors_euclid_last_b m_factors_euclid_lastOfFirst_a m_factors_euclid_lastOfFirst_b m_factors_euclid_lastOfSecond_a m_factors_euclid_lastOfSecond_b m_factors_euclid_next_a m_factors_euclid_next_b m_factors_euclid_nextOfFirst_a m_factors_euclid_nextOfFirst_b m_factors_euclid_nextOfSecond_a m_factors_euclid_nextOfSecond_b m_factors_euclid_q_a m_factors_euclid_q_b m_factors_euclid_quotientA m_factors_euclid_quotientB m_factors_left_a m_factors_left_b m_factors_found_a m_factors_found_b m_factors_product_a m_factors_product_b m_primes_count m_primes_primeA m_primes_primeB m_primes_found_a m_primes_found_b m_rings_foundA m_rings_foundB m_rings_all m_rings_mostOfOneRow m_letters_count m_letters_bytes y28.2.1 y28.2.2.1 y28.2.2.2.1 y28.2.2.2.2 m_three_a m_three_b m_four_a m_four_b y49.2.2.2.2.2.2.2.2.2.2.2.2.2.2.2.2.2.1 y49.2.2.2.2.2.2.2.2.2.2.2.2.2.2.2.2.2.2.1 y49.2.2.2.2.2.2.2.2.2.2.2.2.2.2.2.2.2.2.2.1 y49.2.2.2.2.2.2.2.2.2.2.2.2.2.2.2.2.2.2.2.2 m_marks y53 hy53) rfl rfl [] rfl rfl rfl rfl rfl rfl (fun H locs X => ?_)
      refine x_aload_n 57 C dX10_least_56 hl 0 rfl rfl ?_
      refine x_get 60 C dX10_least_57 X kf_X10_77 0 rfl rfl rfl ?_
      refine x_iload_n 61 C dX10_least_60 hl 3 rfl rfl ?_
      obtain ⟨y61, hy61, hf⟩ := kx_bind hf
      refine x_callSi 64 C dX10_least_61 X hl kl_X10_273 (c_X10_part E.2.1 D T (h 47) v3 y53.1 y53.2.1 y61 hy61) [] rfl rfl rfl rfl rfl cb_111 rfl (fun H locs X => ?_)
      obtain rfl := Option.some.inj hf
      exact R _ _ _ _ X dX10_least_64
    refine x_ldc 46 C dX10_least_44 (-2147483648 : Int32) kc_X10_140 rfl ?_
    obtain rfl := Option.some.inj hf
    exact R _ _ _ _ X dX10_least_46
  refine x_iconst 24 C dX10_least_23 (-1 : Int32) kv_iconst_m1 rfl ?_
  obtain rfl := Option.some.inj hf
  exact R _ _ _ _ X dX10_least_24
set_option maxHeartbeats 4000000 in
set_option maxRecDepth 100000 in
theorem w_X11_least_105 {E : KE} {A : Nat → Prop} {D : va_G} {T : KT} (h : Nat → Nat) (C : kx_C E cX11_least 26 (some .int) RX11 4 110 D T) (N : Nat) (x : Int32 × Int64 × Int64) (m_taped m_states m_threes m_primes m_ones m_unit : Int32) (m_allParts m_allNorms m_allClasses : Int64) (m_odd : Int32) (m_boxWide m_boxHigh m_boxStep : Int64) (m_partingMany : Int32) (m_qa m_qb m_la m_lb m_sa m_sb m_ta m_tb : Int64) (m_listed m_tells m_wanted m_found : Int32) (m_bits : Int64) (m_power2 m_rings m_ringA m_ringB m_seedNow : Int32) (m_tape m_has m_keptHas m_first m_second m_keptFirst m_keptSecond m_pa m_pb m_pNorm m_cubed m_isOpen m_signs m_often m_la0 m_lb0 : Nat → Int32) (R : kx_RI E cX11_least D A (wM T h m_taped m_states x.2.1 x.2.2 m_threes m_primes m_ones m_unit m_allParts m_allNorms m_allClasses m_odd m_boxWide m_boxHigh m_boxStep m_partingMany m_qa m_qb m_la m_lb m_sa m_sb m_ta m_tb m_listed m_tells m_wanted m_found m_bits m_power2 m_rings m_ringA m_ringB m_seedNow m_tape m_has m_keptHas m_first m_second m_keptFirst m_keptSecond m_pa m_pb m_pNorm m_cubed m_isOpen m_signs m_often m_la0 m_lb0) x.1) (k95 : Int32 → Int64 → Int64 → Int64 → Int64 → Int64 → Int64 → Int32 → Int64 → Int64 → Option (Int32 × Int64 × Int64)) (hk95 : ∀ (m_ra m_rb : Int64) (v3 : Int32) (v4 v6 v8 v10 v12 v14 : Int64) (v16 : Int32) (H : Heap) (locs : List Loc) (ls : Array Slot), kx_H E D A H locs (wM T h m_taped m_states m_ra m_rb m_threes m_primes m_ones m_unit m_allParts m_allNorms m_allClasses m_odd m_boxWide m_boxHigh m_boxStep m_partingMany m_qa m_qb m_la m_lb m_sa m_sb m_ta m_tb m_listed m_tells m_wanted m_found m_bits m_power2 m_rings m_ringA m_ringB m_seedNow m_tape m_has m_keptHas m_first m_second m_keptFirst m_keptSecond m_pa m_pb m_pNorm m_cubed m_isOpen m_signs m_often m_la0 m_lb0) → lv_has ls 26 [(0, .ref (h 0)), (3, .int v3), (4, .long v4), (6, .long v6), (8, .long v8), (10, .long v10), (12, .long v12), (14, .long v14), (16, .int v16)] → k95 v3 v4 v6 v8 v10 v12 v14 v16 m_ra m_rb = some x → kx_W E H locs 95 ls []) : ∀ (k : Nat), ∀ (m_ra m_rb : Int64) (v3 : Int32) (v4 v6 v8 v10 v12 v14 : Int64) (v16 v17 : Int32) (H : Heap) (locs : List Loc) (ls : Array Slot), kx_H E D A H locs (wM T h m_taped m_states m_ra m_rb m_threes m_primes m_ones m_unit m_allParts m_allNorms m_allClasses m_odd m_boxWide m_boxHigh m_boxStep m_partingMany m_qa m_qb m_la m_lb m_sa m_sb m_ta m_tb m_listed m_tells m_wanted m_found m_bits m_power2 m_rings m_ringA m_ringB m_seedNow m_tape m_has m_keptHas m_first m_second m_keptFirst m_keptSecond m_pa m_pb m_pNorm m_cubed m_isOpen m_signs m_often m_la0 m_lb0) → lv_has ls 26 [(0, .ref (h 0)), (3, .int v3), (4, .long v4), (6, .long v6), (8, .long v8), (10, .long v10), (12, .long v12), (14, .long v14), (16, .int v16), (17, .int v17)] → f_X11_least_105 N k95 k v3 v4 v6 v8 v10 v12 v14 v16 v17 m_ra m_rb = some x → kx_W E H locs 105 ls [] := by
  intro k
  induction k with
  | zero =>
    intro m_ra m_rb v3 v4 v6 v8 v10 v12 v14 v16 v17 H locs ls X hl hf
    cases (show (none : Option (Int32 × Int64 × Int64)) = some x from hf)
  | succ k ih =>
    intro m_ra m_rb v3 v4 v6 v8 v10 v12 v14 v16 v17 H locs ls X hl hf
    rw [f_X11_least_105] at hf
    refine x_iload 107 C dX11_least_105 hl 9 rfl rfl ?_
    refine x_iconst 108 C dX11_least_107 (3 : Int32) kv_iconst_3 rfl ?_
    refine x_icmp_ge 218 111 C dX11_least_108 rfl rfl hf (fun hf => ?_) (fun hf => ?_)
    · refine x_iinc 221 C dX11_least_218 (1 : Int32) kv_iconst_1 [(16, .int (v16 + (1 : Int32))), (0, .ref (h 0)), (3, .int v3), (4, .long v4), (6, .long v6), (8, .long v8), (10, .long v10), (12, .long v12), (14, .long v14), (17, .int v17)] hl 8 rfl rfl rfl rfl (fun ls hl => ?_)
      refine x_goto 95 C dX11_least_221 rfl ?_
      exact hk95 m_ra m_rb v3 v4 v6 v8 v10 v12 v14 (v16 + (1 : Int32)) _ _ _ X (lv_sub hl [1, 2, 3, 4, 5, 6, 7, 8, 0] rfl) hf
    refine x_aload_n 112 C dX11_least_111 hl 0 rfl rfl ?_
    refine x_lload 114 C dX11_least_112 hl 2 rfl rfl ?_
    refine x_lload 116 C dX11_least_114 hl 3 rfl rfl ?_
    refine x_iload 118 C dX11_least_116 hl 8 rfl rfl ?_
    refine x_i2l 119 C dX11_least_118 rfl ?_
    refine x_iload 121 C dX11_least_119 hl 9 rfl rfl ?_
    refine x_i2l 122 C dX11_least_121 rfl ?_
    obtain ⟨y122, hy122, hf⟩ := kx_bind hf
    refine x_callVv0 125 C dX11_least_122 X hl kl_X11_121 (c_X11_times E.2.1 D T h v4 v6 (v16).toInt64 (v17).toInt64 m_taped m_states m_ra m_rb m_threes m_primes m_ones m_unit m_allParts m_allNorms m_allClasses m_odd m_boxWide m_boxHigh m_boxStep m_partingMany m_qa m_qb m_la m_lb m_sa m_sb m_ta m_tb m_listed m_tells m_wanted m_found m_bits m_power2 m_rings m_ringA m_ringB m_seedNow m_tape m_has m_keptHas m_first m_second m_keptFirst m_keptSecond m_pa m_pb m_pNorm m_cubed m_isOpen m_signs m_often m_la0 m_lb0 y122 hy122) rfl rfl [] rfl rfl rfl rfl rfl rfl (fun H locs X => ?_)
    refine x_lload 127 C dX11_least_125 hl 4 rfl rfl ?_
    refine x_aload_n 128 C dX11_least_127 hl 0 rfl rfl ?_
    refine x_get 131 C dX11_least_128 X kf_X11_105 0 rfl rfl rfl ?_
    refine x_ladd 132 C dX11_least_131 rfl ?_
    refine x_lstore 134 C dX11_least_132 [(18, .long (v8 + y122.1)), (0, .ref (h 0)), (3, .int v3), (4, .long v4), (6, .long v6), (8, .long v8), (10, .long v10), (12, .long v12), (14, .long v14), (16, .int v16), (17, .int v17)] hl rfl rfl rfl (fun ls hl => ?_)
    refine x_lload 136 C dX11_least_134 hl 6 rfl rfl ?_
    refine x_aload_n 137 C dX11_least_136 hl 1 rfl rfl ?_
    refine x_get 140 C dX11_least_137 X kf_X11_109 0 rfl rfl rfl ?_
    refine x_ladd 141 C dX11_least_140 rfl ?_
    refine x_lstore 143 C dX11_least_141 [(20, .long (v10 + y122.2)), (18, .long (v8 + y122.1)), (0, .ref (h 0)), (3, .int v3), (4, .long v4), (6, .long v6), (8, .long v8), (10, .long v10), (12, .long v12), (14, .long v14), (16, .int v16), (17, .int v17)] hl rfl rfl rfl (fun ls hl => ?_)
    refine x_lload 145 C dX11_least_143 hl 1 rfl rfl ?_
    refine x_lload 147 C dX11_least_145 hl 0 rfl rfl ?_
    obtain ⟨y147, hy147, hf⟩ := kx_bind hf
    refine x_callSl 150 C dX11_least_147 X hl kl_X11_112 (c_X11_norm E.2.1 D T  (v8 + y122.1) (v10 + y122.2)  y147 hy147) [] rfl rfl rfl rfl rfl cb_7 rfl (fun H locs X => ?_)
    refine x_lstore 152 C dX11_least_150 [(22, .long y147), (20, .long (v10 + y122.2)), (18, .long (v8 + y122.1)), (0, .ref (h 0)), (3, .int v3), (4, .long v4), (6, .long v6), (8, .long v8), (10, .long v10), (12, .long v12), (14, .long v14), (16, .int v16), (17, .int v17)] hl rfl rfl rfl (fun ls hl => ?_)
    refine x_lload 154 C dX11_least_152 hl 9 rfl rfl ?_
    refine x_lload 156 C dX11_least_154 hl 10 rfl rfl ?_
    obtain ⟨y156, hy156, hf⟩ := kx_bind hf
    refine x_callSl 159 C dX11_least_156 X hl kl_X11_112 (c_X11_norm E.2.1 D T  v12 v14  y156 hy156) [] rfl rfl rfl rfl rfl cb_7 rfl (fun H locs X => ?_)
    refine x_lstore 161 C dX11_least_159 [(24, .long y156), (22, .long y147), (20, .long (v10 + y122.2)), (18, .long (v8 + y122.1)), (0, .ref (h 0)), (3, .int v3), (4, .long v4), (6, .long v6), (8, .long v8), (10, .long v10), (12, .long v12), (14, .long v14), (16, .int v16), (17, .int v17)] hl rfl rfl rfl (fun ls hl => ?_)
    refine x_lload 163 C dX11_least_161 hl 1 rfl rfl ?_
    refine x_lload 165 C dX11_least_163 hl 0 rfl rfl ?_
    refine x_lcmp_gt 212 166 169 C dX11_least_165 dX11_least_166 rfl rfl rfl hf (fun hf => ?_) (fun hf => ?_)
    · refine x_iinc 215 C dX11_least_212 (1 : Int32) kv_iconst_1 [(17, .int (v17 + (1 : Int32))), (24, .long y156), (22, .long y147), (20, .long (v10 + y122.2)), (18, .long (v8 + y122.1)), (0, .ref (h 0)), (3, .int v3), (4, .long v4), (6, .long v6), (8, .long v8), (10, .long v10), (12, .long v12), (14, .long v14), (16, .int v16)] hl 13 rfl rfl rfl rfl (fun ls hl => ?_)
      refine x_goto 105 C dX11_least_215 rfl ?_
      exact ih y122.1 y122.2 v3 v4 v6 v8 v10 v12 v14 v16 (v17 + (1 : Int32)) _ _ _ X (lv_sub hl [5, 6, 7, 8, 9, 10, 11, 12, 13, 0] rfl) hf
    refine x_lload 171 C dX11_least_169 hl 1 rfl rfl ?_
    refine x_lload 173 C dX11_least_171 hl 0 rfl rfl ?_
    refine x_lcmp_ne 204 174 177 C dX11_least_173 dX11_least_174 rfl rfl rfl hf (fun hf => ?_) (fun hf => ?_)
    · refine x_lload 206 C dX11_least_204 hl 3 rfl rfl ?_
      refine x_lstore 208 C dX11_least_206 [(12, .long (v8 + y122.1)), (24, .long y156), (22, .long y147), (20, .long (v10 + y122.2)), (18, .long (v8 + y122.1)), (0, .ref (h 0)), (3, .int v3), (4, .long v4), (6, .long v6), (8, .long v8), (10, .long v10), (14, .long v14), (16, .int v16), (17, .int v17)] hl rfl rfl rfl (fun ls hl => ?_)
      refine x_lload 210 C dX11_least_208 hl 3 rfl rfl ?_
      refine x_lstore 212 C dX11_least_210 [(14, .long (v10 + y122.2)), (12, .long (v8 + y122.1)), (24, .long y156), (22, .long y147), (20, .long (v10 + y122.2)), (18, .long (v8 + y122.1)), (0, .ref (h 0)), (3, .int v3), (4, .long v4), (6, .long v6), (8, .long v8), (10, .long v10), (16, .int v16), (17, .int v17)] hl rfl rfl rfl (fun ls hl => ?_)
      refine x_iinc 215 C dX11_least_212 (1 : Int32) kv_iconst_1 [(17, .int (v17 + (1 : Int32))), (14, .long (v10 + y122.2)), (12, .long (v8 + y122.1)), (24, .long y156), (22, .long y147), (20, .long (v10 + y122.2)), (18, .long (v8 + y122.1)), (0, .ref (h 0)), (3, .int v3), (4, .long v4), (6, .long v6), (8, .long v8), (10, .long v10), (16, .int v16)] hl 13 rfl rfl rfl rfl (fun ls hl => ?_)
      refine x_goto 105 C dX11_least_215 rfl ?_
      exact ih y122.1 y122.2 v3 v4 v6 v8 v10 (v8 + y122.1) (v10 + y122.2) v16 (v17 + (1 : Int32)) _ _ _ X (lv_sub hl [7, 8, 9, 10, 11, 12, 2, 1, 13, 0] rfl) hf
    refine x_lload 179 C dX11_least_177 hl 3 rfl rfl ?_
    refine x_lload 181 C dX11_least_179 hl 10 rfl rfl ?_
    refine x_lcmp_gt 212 182 185 C dX11_least_181 dX11_least_182 rfl rfl rfl hf (fun hf => ?_) (fun hf => ?_)
    · refine x_iinc 215 C dX11_least_212 (1 : Int32) kv_iconst_1 [(17, .int (v17 + (1 : Int32))), (24, .long y156), (22, .long y147), (20, .long (v10 + y122.2)), (18, .long (v8 + y122.1)), (0, .ref (h 0)), (3, .int v3), (4, .long v4), (6, .long v6), (8, .long v8), (10, .long v10), (12, .long v12), (14, .long v14), (16, .int v16)] hl 13 rfl rfl rfl rfl (fun ls hl => ?_)
      refine x_goto 105 C dX11_least_215 rfl ?_
      exact ih y122.1 y122.2 v3 v4 v6 v8 v10 v12 v14 v16 (v17 + (1 : Int32)) _ _ _ X (lv_sub hl [5, 6, 7, 8, 9, 10, 11, 12, 13, 0] rfl) hf
    refine x_lload 187 C dX11_least_185 hl 3 rfl rfl ?_
    refine x_lload 189 C dX11_least_187 hl 10 rfl rfl ?_
    refine x_lcmp_ne 204 190 193 C dX11_least_189 dX11_least_190 rfl rfl rfl hf (fun hf => ?_) (fun hf => ?_)
    · refine x_lload 206 C dX11_least_204 hl 3 rfl rfl ?_
      refine x_lstore 208 C dX11_least_206 [(12, .long (v8 + y122.1)), (24, .long y156), (22, .long y147), (20, .long (v10 + y122.2)), (18, .long (v8 + y122.1)), (0, .ref (h 0)), (3, .int v3), (4, .long v4), (6, .long v6), (8, .long v8), (10, .long v10), (14, .long v14), (16, .int v16), (17, .int v17)] hl rfl rfl rfl (fun ls hl => ?_)
      refine x_lload 210 C dX11_least_208 hl 3 rfl rfl ?_
      refine x_lstore 212 C dX11_least_210 [(14, .long (v10 + y122.2)), (12, .long (v8 + y122.1)), (24, .long y156), (22, .long y147), (20, .long (v10 + y122.2)), (18, .long (v8 + y122.1)), (0, .ref (h 0)), (3, .int v3), (4, .long v4), (6, .long v6), (8, .long v8), (10, .long v10), (16, .int v16), (17, .int v17)] hl rfl rfl rfl (fun ls hl => ?_)
      refine x_iinc 215 C dX11_least_212 (1 : Int32) kv_iconst_1 [(17, .int (v17 + (1 : Int32))), (14, .long (v10 + y122.2)), (12, .long (v8 + y122.1)), (24, .long y156), (22, .long y147), (20, .long (v10 + y122.2)), (18, .long (v8 + y122.1)), (0, .ref (h 0)), (3, .int v3), (4, .long v4), (6, .long v6), (8, .long v8), (10, .long v10), (16, .int v16)] hl 13 rfl rfl rfl rfl (fun ls hl => ?_)
      refine x_goto 105 C dX11_least_215 rfl ?_
      exact ih y122.1 y122.2 v3 v4 v6 v8 v10 (v8 + y122.1) (v10 + y122.2) v16 (v17 + (1 : Int32)) _ _ _ X (lv_sub hl [7, 8, 9, 10, 11, 12, 2, 1, 13, 0] rfl) hf
    refine x_lload 195 C dX11_least_193 hl 2 rfl rfl ?_
    refine x_lload 197 C dX11_least_195 hl 11 rfl rfl ?_
    refine x_lcmp_lt 204 198 201 C dX11_least_197 dX11_least_198 rfl rfl rfl hf (fun hf => ?_) (fun hf => ?_)
    · refine x_lload 206 C dX11_least_204 hl 3 rfl rfl ?_
      refine x_lstore 208 C dX11_least_206 [(12, .long (v8 + y122.1)), (24, .long y156), (22, .long y147), (20, .long (v10 + y122.2)), (18, .long (v8 + y122.1)), (0, .ref (h 0)), (3, .int v3), (4, .long v4), (6, .long v6), (8, .long v8), (10, .long v10), (14, .long v14), (16, .int v16), (17, .int v17)] hl rfl rfl rfl (fun ls hl => ?_)
      refine x_lload 210 C dX11_least_208 hl 3 rfl rfl ?_
      refine x_lstore 212 C dX11_least_210 [(14, .long (v10 + y122.2)), (12, .long (v8 + y122.1)), (24, .long y156), (22, .long y147), (20, .long (v10 + y122.2)), (18, .long (v8 + y122.1)), (0, .ref (h 0)), (3, .int v3), (4, .long v4), (6, .long v6), (8, .long v8), (10, .long v10), (16, .int v16), (17, .int v17)] hl rfl rfl rfl (fun ls hl => ?_)
      refine x_iinc 215 C dX11_least_212 (1 : Int32) kv_iconst_1 [(17, .int (v17 + (1 : Int32))), (14, .long (v10 + y122.2)), (12, .long (v8 + y122.1)), (24, .long y156), (22, .long y147), (20, .long (v10 + y122.2)), (18, .long (v8 + y122.1)), (0, .ref (h 0)), (3, .int v3), (4, .long v4), (6, .long v6), (8, .long v8), (10, .long v10), (16, .int v16)] hl 13 rfl rfl rfl rfl (fun ls hl => ?_)
      refine x_goto 105 C dX11_least_215 rfl ?_
      exact ih y122.1 y122.2 v3 v4 v6 v8 v10 (v8 + y122.1) (v10 + y122.2) v16 (v17 + (1 : Int32)) _ _ _ X (lv_sub hl [7, 8, 9, 10, 11, 12, 2, 1, 13, 0] rfl) hf
    refine x_goto 212 C dX11_least_201 rfl ?_
    refine x_iinc 215 C dX11_least_212 (1 : Int32) kv_iconst_1 [(17, .int (v17 + (1 : Int32))), (24, .long y156), (22, .long y147), (20, .long (v10 + y122.2)), (18, .long (v8 + y122.1)), (0, .ref (h 0)), (3, .int v3), (4, .long v4), (6, .long v6), (8, .long v8), (10, .long v10), (12, .long v12), (14, .long v14), (16, .int v16)] hl 13 rfl rfl rfl rfl (fun ls hl => ?_)
    refine x_goto 105 C dX11_least_215 rfl ?_
    exact ih y122.1 y122.2 v3 v4 v6 v8 v10 v12 v14 v16 (v17 + (1 : Int32)) _ _ _ X (lv_sub hl [5, 6, 7, 8, 9, 10, 11, 12, 13, 0] rfl) hf
set_option maxHeartbeats 4000000 in
set_option maxRecDepth 100000 in
theorem w_X11_least_95 {E : KE} {A : Nat → Prop} {D : va_G} {T : KT} (h : Nat → Nat) (C : kx_C E cX11_least 26 (some .int) RX11 4 110 D T) (N : Nat) (x : Int32 × Int64 × Int64) (m_taped m_states m_threes m_primes m_ones m_unit : Int32) (m_allParts m_allNorms m_allClasses : Int64) (m_odd : Int32) (m_boxWide m_boxHigh m_boxStep : Int64) (m_partingMany : Int32) (m_qa m_qb m_la m_lb m_sa m_sb m_ta m_tb : Int64) (m_listed m_tells m_wanted m_found : Int32) (m_bits : Int64) (m_power2 m_rings m_ringA m_ringB m_seedNow : Int32) (m_tape m_has m_keptHas m_first m_second m_keptFirst m_keptSecond m_pa m_pb m_pNorm m_cubed m_isOpen m_signs m_often m_la0 m_lb0 : Nat → Int32) (R : kx_RI E cX11_least D A (wM T h m_taped m_states x.2.1 x.2.2 m_threes m_primes m_ones m_unit m_allParts m_allNorms m_allClasses m_odd m_boxWide m_boxHigh m_boxStep m_partingMany m_qa m_qb m_la m_lb m_sa m_sb m_ta m_tb m_listed m_tells m_wanted m_found m_bits m_power2 m_rings m_ringA m_ringB m_seedNow m_tape m_has m_keptHas m_first m_second m_keptFirst m_keptSecond m_pa m_pb m_pNorm m_cubed m_isOpen m_signs m_often m_la0 m_lb0) x.1) : ∀ (k : Nat), ∀ (m_ra m_rb : Int64) (v3 : Int32) (v4 v6 v8 v10 v12 v14 : Int64) (v16 : Int32) (H : Heap) (locs : List Loc) (ls : Array Slot), kx_H E D A H locs (wM T h m_taped m_states m_ra m_rb m_threes m_primes m_ones m_unit m_allParts m_allNorms m_allClasses m_odd m_boxWide m_boxHigh m_boxStep m_partingMany m_qa m_qb m_la m_lb m_sa m_sb m_ta m_tb m_listed m_tells m_wanted m_found m_bits m_power2 m_rings m_ringA m_ringB m_seedNow m_tape m_has m_keptHas m_first m_second m_keptFirst m_keptSecond m_pa m_pb m_pNorm m_cubed m_isOpen m_signs m_often m_la0 m_lb0) → lv_has ls 26 [(0, .ref (h 0)), (3, .int v3), (4, .long v4), (6, .long v6), (8, .long v8), (10, .long v10), (12, .long v12), (14, .long v14), (16, .int v16)] → f_X11_least_95 N k v3 v4 v6 v8 v10 v12 v14 v16 m_ra m_rb = some x → kx_W E H locs 95 ls [] := by
  intro k
  induction k with
  | zero =>
    intro m_ra m_rb v3 v4 v6 v8 v10 v12 v14 v16 H locs ls X hl hf
    cases (show (none : Option (Int32 × Int64 × Int64)) = some x from hf)
  | succ k ih =>
    intro m_ra m_rb v3 v4 v6 v8 v10 v12 v14 v16 H locs ls X hl hf
    rw [f_X11_least_95] at hf
    refine x_iload 97 C dX11_least_95 hl 8 rfl rfl ?_
    refine x_iconst 98 C dX11_least_97 (3 : Int32) kv_iconst_3 rfl ?_
    refine x_icmp_ge 224 101 C dX11_least_98 rfl rfl hf (fun hf => ?_) (fun hf => ?_)
    · refine x_iload_n 225 C dX11_least_224 hl 1 rfl rfl ?_
      refine x_if_ne 233 228 C dX11_least_225 rfl rfl hf (fun hf => ?_) (fun hf => ?_)
      · refine x_lload 235 C dX11_least_233 hl 7 rfl rfl ?_
        refine x_l2i 236 C dX11_least_235 rfl ?_
        obtain rfl := Option.some.inj hf
        exact R _ _ _ _ X dX11_least_236
      refine x_lload 230 C dX11_least_228 hl 6 rfl rfl ?_
      refine x_goto 235 C dX11_least_230 rfl ?_
      refine x_l2i 236 C dX11_least_235 rfl ?_
      obtain rfl := Option.some.inj hf
      exact R _ _ _ _ X dX11_least_236
    refine x_bipush 103 C dX11_least_101 (-2 : Int32) kv_bipush_m2 rfl ?_
    refine x_istore 105 C dX11_least_103 [(17, .int (-2 : Int32)), (0, .ref (h 0)), (3, .int v3), (4, .long v4), (6, .long v6), (8, .long v8), (10, .long v10), (12, .long v12), (14, .long v14), (16, .int v16)] hl rfl rfl rfl (fun ls hl => ?_)
    exact w_X11_least_105 h C N x m_taped m_states m_threes m_primes m_ones m_unit m_allParts m_allNorms m_allClasses m_odd m_boxWide m_boxHigh m_boxStep m_partingMany m_qa m_qb m_la m_lb m_sa m_sb m_ta m_tb m_listed m_tells m_wanted m_found m_bits m_power2 m_rings m_ringA m_ringB m_seedNow m_tape m_has m_keptHas m_first m_second m_keptFirst m_keptSecond m_pa m_pb m_pNorm m_cubed m_isOpen m_signs m_often m_la0 m_lb0 R (f_X11_least_95 N k) ih N m_ra m_rb v3 v4 v6 v8 v10 v12 v14 v16 (-2 : Int32) _ _ _ X (lv_sub hl [1, 2, 3, 4, 5, 6, 7, 8, 9, 0] rfl) hf
set_option maxHeartbeats 4000000 in
set_option maxRecDepth 100000 in
theorem c_X11_least (l : Launch) (D : va_G) (T : KT) (h : Nat → Nat) (N : Nat) (v1 v2 v3 : Int32) (m_taped m_states : Int32) (m_ra m_rb : Int64) (m_threes m_primes m_ones m_unit : Int32) (m_allParts m_allNorms m_allClasses : Int64) (m_odd : Int32) (m_boxWide m_boxHigh m_boxStep : Int64) (m_partingMany : Int32) (m_qa m_qb m_la m_lb m_sa m_sb m_ta m_tb : Int64) (m_listed m_tells m_wanted m_found : Int32) (m_bits : Int64) (m_power2 m_rings m_ringA m_ringB m_seedNow : Int32) (m_tape m_has m_keptHas m_first m_second m_keptFirst m_keptSecond m_pa m_pb m_pNorm m_cubed m_isOpen m_signs m_often m_la0 m_lb0 : Nat → Int32) (x : Int32 × Int64 × Int64) (hf : f_X11_least N v1 v2 v3 m_ra m_rb m_has m_first m_second = some x) : kx_MI l yX11_least cX11_least 26 (some .int) 4 110 D T [.ref (h 0), .int v1, .int v2, .int v3] (wM T h m_taped m_states m_ra m_rb m_threes m_primes m_ones m_unit m_allParts m_allNorms m_allClasses m_odd m_boxWide m_boxHigh m_boxStep m_partingMany m_qa m_qb m_la m_lb m_sa m_sb m_ta m_tb m_listed m_tells m_wanted m_found m_bits m_power2 m_rings m_ringA m_ringB m_seedNow m_tape m_has m_keptHas m_first m_second m_keptFirst m_keptSecond m_pa m_pb m_pNorm m_cubed m_isOpen m_signs m_often m_la0 m_lb0) (wM T h m_taped m_states x.2.1 x.2.2 m_threes m_primes m_ones m_unit m_allParts m_allNorms m_allClasses m_odd m_boxWide m_boxHigh m_boxStep m_partingMany m_qa m_qb m_la m_lb m_sa m_sb m_ta m_tb m_listed m_tells m_wanted m_found m_bits m_power2 m_rings m_ringA m_ringB m_seedNow m_tape m_has m_keptHas m_first m_second m_keptFirst m_keptSecond m_pa m_pb m_pNorm m_cubed m_isOpen m_signs m_often m_la0 m_lb0) x.1 := by
  refine kx_ofMI RX11 rfl (plainFor_of_name (x := yX11_least) kpn_X11) rfl ?_
  intro E A H ls _ C X R hl
  have hl : lv_has ls 26 [(0, .ref (h 0)), (1, .int v1), (2, .int v2), (3, .int v3)] := hl
  rw [f_X11_least] at hf
  refine x_iload_n 1 C dX11_least_0 hl 1 rfl rfl ?_
  refine x_iload_n 2 C dX11_least_1 hl 2 rfl rfl ?_
  refine x_iload_n 3 C dX11_least_2 hl 3 rfl rfl ?_
  obtain ⟨y3, hy3, hf⟩ := kx_bind hf
  refine x_callSi 6 C dX11_least_3 X hl kl_X11_265 (c_X11_areDrawers E.2.1 D T  v1 v2 v3  y3 hy3) [] rfl rfl rfl rfl rfl cb_7 rfl (fun H locs X => ?_)
  refine x_if_ne 11 9 C dX11_least_6 rfl rfl hf (fun hf => ?_) (fun hf => ?_)
  · refine x_aload_n 12 C dX11_least_11 hl 0 rfl rfl ?_
    refine x_iload_n 13 C dX11_least_12 hl 1 rfl rfl ?_
    refine x_iload_n 14 C dX11_least_13 hl 2 rfl rfl ?_
    obtain ⟨y14, hy14, hf⟩ := kx_bind hf
    refine x_callVi0 17 C dX11_least_14 X hl kl_X11_269 (c_X11_hasBoth E.2.1 D T h v1 v2 m_taped m_states m_ra m_rb m_threes m_primes m_ones m_unit m_allParts m_allNorms m_allClasses m_odd m_boxWide m_boxHigh m_boxStep m_partingMany m_qa m_qb m_la m_lb m_sa m_sb m_ta m_tb m_listed m_tells m_wanted m_found m_bits m_power2 m_rings m_ringA m_ringB m_seedNow m_tape m_has m_keptHas m_first m_second m_keptFirst m_keptSecond m_pa m_pb m_pNorm m_cubed m_isOpen m_signs m_often m_la0 m_lb0 y14 hy14) rfl rfl [] rfl rfl rfl rfl rfl rfl (fun H locs X => ?_)
    refine x_if_eq 28 20 C dX11_least_17 rfl rfl hf (fun hf => ?_) (fun hf => ?_)
    · refine x_ldc 30 C dX11_least_28 (-2147483648 : Int32) kc_X11_164 rfl ?_
      obtain rfl := Option.some.inj hf
      exact R _ _ _ _ X dX11_least_30
    refine x_aload_n 21 C dX11_least_20 hl 0 rfl rfl ?_
    refine x_iload_n 22 C dX11_least_21 hl 2 rfl rfl ?_
    obtain ⟨y22, hy22, hf⟩ := kx_bind hf
    refine x_callVi0 25 C dX11_least_22 X hl kl_X11_178 (c_X11_isNothing E.2.1 D T h v2 m_taped m_states m_ra m_rb m_threes m_primes m_ones m_unit m_allParts m_allNorms m_allClasses m_odd m_boxWide m_boxHigh m_boxStep m_partingMany m_qa m_qb m_la m_lb m_sa m_sb m_ta m_tb m_listed m_tells m_wanted m_found m_bits m_power2 m_rings m_ringA m_ringB m_seedNow m_tape m_has m_keptHas m_first m_second m_keptFirst m_keptSecond m_pa m_pb m_pNorm m_cubed m_isOpen m_signs m_often m_la0 m_lb0 y22 hy22) rfl rfl [] rfl rfl rfl rfl rfl rfl (fun H locs X => ?_)
    refine x_if_eq 31 28 C dX11_least_25 rfl rfl hf (fun hf => ?_) (fun hf => ?_)
    · refine x_aload_n 32 C dX11_least_31 hl 0 rfl rfl ?_
      refine x_get 35 C dX11_least_32 X kf_X11_20 0 rfl rfl rfl ?_
      refine x_iload_n 36 C dX11_least_35 hl 2 rfl rfl ?_
      refine x_iald 37 C dX11_least_36 X 4 rfl hf rfl (fun hf => ?_)
      refine x_i2l 38 C dX11_least_37 rfl ?_
      refine x_lstore 40 C dX11_least_38 [(4, .long ((m_first (v2).toNatClampNeg)).toInt64), (0, .ref (h 0)), (1, .int v1), (2, .int v2), (3, .int v3)] hl rfl rfl rfl (fun ls hl => ?_)
      refine x_aload_n 41 C dX11_least_40 hl 1 rfl rfl ?_
      refine x_get 44 C dX11_least_41 X kf_X11_24 0 rfl rfl rfl ?_
      refine x_iload_n 45 C dX11_least_44 hl 3 rfl rfl ?_
      refine x_iald 46 C dX11_least_45 X 5 rfl hf rfl (fun hf => ?_)
      refine x_i2l 47 C dX11_least_46 rfl ?_
      refine x_lstore 49 C dX11_least_47 [(6, .long ((m_second (v2).toNatClampNeg)).toInt64), (4, .long ((m_first (v2).toNatClampNeg)).toInt64), (0, .ref (h 0)), (1, .int v1), (2, .int v2), (3, .int v3)] hl rfl rfl rfl (fun ls hl => ?_)
      refine x_aload_n 50 C dX11_least_49 hl 2 rfl rfl ?_
      refine x_aload_n 51 C dX11_least_50 hl 2 rfl rfl ?_
      refine x_get 54 C dX11_least_51 X kf_X11_20 0 rfl rfl rfl ?_
      refine x_iload_n 55 C dX11_least_54 hl 3 rfl rfl ?_
      refine x_iald 56 C dX11_least_55 X 4 rfl hf rfl (fun hf => ?_)
      refine x_i2l 57 C dX11_least_56 rfl ?_
      refine x_aload_n 58 C dX11_least_57 hl 2 rfl rfl ?_
      refine x_get 61 C dX11_least_58 X kf_X11_24 0 rfl rfl rfl ?_
      refine x_iload_n 62 C dX11_least_61 hl 3 rfl rfl ?_
      refine x_iald 63 C dX11_least_62 X 5 rfl hf rfl (fun hf => ?_)
      refine x_i2l 64 C dX11_least_63 rfl ?_
      refine x_lload 66 C dX11_least_64 hl 1 rfl rfl ?_
      refine x_lload 68 C dX11_least_66 hl 0 rfl rfl ?_
      obtain ⟨y68, hy68, hf⟩ := kx_bind hf
      refine x_callVv0 71 C dX11_least_68 X hl kl_X11_131 (c_X11_rests E.2.1 D T h ((m_first (v1).toNatClampNeg)).toInt64 ((m_second (v1).toNatClampNeg)).toInt64 ((m_first (v2).toNatClampNeg)).toInt64 ((m_second (v2).toNatClampNeg)).toInt64 m_taped m_states m_ra m_rb m_threes m_primes m_ones m_unit m_allParts m_allNorms m_allClasses m_odd m_boxWide m_boxHigh m_boxStep m_partingMany m_qa m_qb m_la m_lb m_sa m_sb m_ta m_tb m_listed m_tells m_wanted m_found m_bits m_power2 m_rings m_ringA m_ringB m_seedNow m_tape m_has m_keptHas m_first m_second m_keptFirst m_keptSecond m_pa m_pb m_pNorm m_cubed m_isOpen m_signs m_often m_la0 m_lb0 y68 hy68) rfl rfl [] rfl rfl rfl rfl rfl rfl (fun H locs X => ?_)
      refine x_aload_n 72 C dX11_least_71 hl 2 rfl rfl ?_
      refine x_get 75 C dX11_least_72 X kf_X11_105 0 rfl rfl rfl ?_
      refine x_lstore 77 C dX11_least_75 [(8, .long y68.1), (6, .long ((m_second (v2).toNatClampNeg)).toInt64), (4, .long ((m_first (v2).toNatClampNeg)).toInt64), (0, .ref (h 0)), (1, .int v1), (2, .int v2), (3, .int v3)] hl rfl rfl rfl (fun ls hl => ?_)
      refine x_aload_n 78 C dX11_least_77 hl 3 rfl rfl ?_
      refine x_get 81 C dX11_least_78 X kf_X11_109 0 rfl rfl rfl ?_
      refine x_lstore 83 C dX11_least_81 [(10, .long y68.2), (8, .long y68.1), (6, .long ((m_second (v2).toNatClampNeg)).toInt64), (4, .long ((m_first (v2).toNatClampNeg)).toInt64), (0, .ref (h 0)), (1, .int v1), (2, .int v2), (3, .int v3)] hl rfl rfl rfl (fun ls hl => ?_)
      refine x_lload 85 C dX11_least_83 hl 1 rfl rfl ?_
      refine x_lstore 87 C dX11_least_85 [(12, .long y68.1), (10, .long y68.2), (8, .long y68.1), (6, .long ((m_second (v2).toNatClampNeg)).toInt64), (4, .long ((m_first (v2).toNatClampNeg)).toInt64), (0, .ref (h 0)), (1, .int v1), (2, .int v2), (3, .int v3)] hl rfl rfl rfl (fun ls hl => ?_)
      refine x_lload 89 C dX11_least_87 hl 1 rfl rfl ?_
      refine x_lstore 91 C dX11_least_89 [(14, .long y68.2), (12, .long y68.1), (10, .long y68.2), (8, .long y68.1), (6, .long ((m_second (v2).toNatClampNeg)).toInt64), (4, .long ((m_first (v2).toNatClampNeg)).toInt64), (0, .ref (h 0)), (1, .int v1), (2, .int v2), (3, .int v3)] hl rfl rfl rfl (fun ls hl => ?_)
      refine x_bipush 93 C dX11_least_91 (-2 : Int32) kv_bipush_m2 rfl ?_
      refine x_istore 95 C dX11_least_93 [(16, .int (-2 : Int32)), (14, .long y68.2), (12, .long y68.1), (10, .long y68.2), (8, .long y68.1), (6, .long ((m_second (v2).toNatClampNeg)).toInt64), (4, .long ((m_first (v2).toNatClampNeg)).toInt64), (0, .ref (h 0)), (1, .int v1), (2, .int v2), (3, .int v3)] hl rfl rfl rfl (fun ls hl => ?_)
      exact w_X11_least_95 h C N x m_taped m_states m_threes m_primes m_ones m_unit m_allParts m_allNorms m_allClasses m_odd m_boxWide m_boxHigh m_boxStep m_partingMany m_qa m_qb m_la m_lb m_sa m_sb m_ta m_tb m_listed m_tells m_wanted m_found m_bits m_power2 m_rings m_ringA m_ringB m_seedNow m_tape m_has m_keptHas m_first m_second m_keptFirst m_keptSecond m_pa m_pb m_pNorm m_cubed m_isOpen m_signs m_often m_la0 m_lb0 R  N y68.1 y68.2 v3 ((m_first (v2).toNatClampNeg)).toInt64 ((m_second (v2).toNatClampNeg)).toInt64 y68.1 y68.2 y68.1 y68.2 (-2 : Int32) _ _ _ X (lv_sub hl [7, 10, 6, 5, 4, 3, 2, 1, 0] rfl) hf
    refine x_ldc 30 C dX11_least_28 (-2147483648 : Int32) kc_X11_164 rfl ?_
    obtain rfl := Option.some.inj hf
    exact R _ _ _ _ X dX11_least_30
  refine x_iconst 10 C dX11_least_9 (-1 : Int32) kv_iconst_m1 rfl ?_
  obtain rfl := Option.some.inj hf
  exact R _ _ _ _ X dX11_least_10
set_option maxHeartbeats 4000000 in
set_option maxRecDepth 100000 in
theorem c_X10_joinClasses (l : Launch) (D : va_G) (T : KT) (h : Nat → Nat) (N : Nat)  (m_drawers_full m_drawers_kept : Int32) (m_drawers_partA m_drawers_partB m_drawers_keptA m_drawers_keptB m_drawers_keptFull : Nat → Int32) (m_tape_size m_tape_plain m_tape_omegas m_tape_end m_tape_place m_tape_plainTold m_tape_omegasTold : Int32) (m_tape_bytes : Nat → Int32) (m_euclid_count : Int32) (m_euclid_last_a m_euclid_last_b m_euclid_lastOfFirst_a m_euclid_lastOfFirst_b m_euclid_lastOfSecond_a m_euclid_lastOfSecond_b m_euclid_next_a m_euclid_next_b m_euclid_nextOfFirst_a m_euclid_nextOfFirst_b m_euclid_nextOfSecond_a m_euclid_nextOfSecond_b m_euclid_q_a m_euclid_q_b : Int64) (m_euclid_quotientA m_euclid_quotientB : Nat → Int64) (m_modulus_step m_modulus_width m_modulus_slant m_modulus_square_a m_modulus_square_b : Int64) (m_factors_count m_factors_threes m_factors_unit : Int32) (m_factors_primeA m_factors_primeB m_factors_norms : Nat → Int64) (m_factors_euclid_count : Int32) (m_factors_euclid_last_a m_factors_euclid_last_b m_factors_euclid_lastOfFirst_a m_factors_euclid_lastOfFirst_b m_factors_euclid_lastOfSecond_a m_factors_euclid_lastOfSecond_b m_factors_euclid_next_a m_factors_euclid_next_b m_factors_euclid_nextOfFirst_a m_factors_euclid_nextOfFirst_b m_factors_euclid_nextOfSecond_a m_factors_euclid_nextOfSecond_b m_factors_euclid_q_a m_factors_euclid_q_b : Int64) (m_factors_euclid_quotientA m_factors_euclid_quotientB : Nat → Int64) (m_factors_left_a m_factors_left_b m_factors_found_a m_factors_found_b m_factors_product_a m_factors_product_b : Int64) (m_primes_count : Int32) (m_primes_primeA m_primes_primeB : Nat → Int32) (m_primes_found_a m_primes_found_b : Int64) (m_rings_foundA m_rings_foundB m_rings_all m_rings_mostOfOneRow m_letters_count : Int32) (m_letters_bytes : Nat → Int32) (m_one_a m_one_b m_two_a m_two_b m_three_a m_three_b m_four_a m_four_b m_out_a m_out_b m_spare_a m_spare_b : Int64) (m_marks : Nat → Int32) (x : Int64 × Int64 × Int64 × Int64 × Int64 × Int64 × Int64) (hf : f_X10_joinClasses N m_modulus_step m_modulus_width m_modulus_slant m_one_a m_one_b m_two_a m_two_b m_three_a m_three_b m_four_a m_four_b m_out_a m_out_b m_spare_a m_spare_b = some x) : kx_MV l yX10_joinClasses cX10_joinClasses 1 none 3 92 D T [.ref (h 0)] (wC T h m_drawers_full m_drawers_kept m_drawers_partA m_drawers_partB m_drawers_keptA m_drawers_keptB m_drawers_keptFull m_tape_size m_tape_plain m_tape_omegas m_tape_end m_tape_place m_tape_plainTold m_tape_omegasTold m_tape_bytes m_euclid_count m_euclid_last_a m_euclid_last_b m_euclid_lastOfFirst_a m_euclid_lastOfFirst_b m_euclid_lastOfSecond_a m_euclid_lastOfSecond_b m_euclid_next_a m_euclid_next_b m_euclid_nextOfFirst_a m_euclid_nextOfFirst_b m_euclid_nextOfSecond_a m_euclid_nextOfSecond_b m_euclid_q_a m_euclid_q_b m_euclid_quotientA m_euclid_quotientB m_modulus_step m_modulus_width m_modulus_slant m_modulus_square_a m_modulus_square_b m_factors_count m_factors_threes m_factors_unit m_factors_primeA m_factors_primeB m_factors_norms m_factors_euclid_count m_factors_euclid_last_a m_factors_euclid_last_b m_factors_euclid_lastOfFirst_a m_factors_euclid_lastOfFirst_b m_factors_euclid_lastOfSecond_a m_factors_euclid_lastOfSecond_b m_factors_euclid_next_a m_factors_euclid_next_b m_factors_euclid_nextOfFirst_a m_factors_euclid_nextOfFirst_b m_factors_euclid_nextOfSecond_a m_factors_euclid_nextOfSecond_b m_factors_euclid_q_a m_factors_euclid_q_b m_factors_euclid_quotientA m_factors_euclid_quotientB m_factors_left_a m_factors_left_b m_factors_found_a m_factors_found_b m_factors_product_a m_factors_product_b m_primes_count m_primes_primeA m_primes_primeB m_primes_found_a m_primes_found_b m_rings_foundA m_rings_foundB m_rings_all m_rings_mostOfOneRow m_letters_count m_letters_bytes m_one_a m_one_b m_two_a m_two_b m_three_a m_three_b m_four_a m_four_b m_out_a m_out_b m_spare_a m_spare_b m_marks) (wC T h m_drawers_full m_drawers_kept m_drawers_partA m_drawers_partB m_drawers_keptA m_drawers_keptB m_drawers_keptFull m_tape_size m_tape_plain m_tape_omegas m_tape_end m_tape_place m_tape_plainTold m_tape_omegasTold m_tape_bytes m_euclid_count m_euclid_last_a m_euclid_last_b m_euclid_lastOfFirst_a m_euclid_lastOfFirst_b m_euclid_lastOfSecond_a m_euclid_lastOfSecond_b m_euclid_next_a m_euclid_next_b m_euclid_nextOfFirst_a m_euclid_nextOfFirst_b m_euclid_nextOfSecond_a m_euclid_nextOfSecond_b m_euclid_q_a m_euclid_q_b m_euclid_quotientA m_euclid_quotientB x.1 x.2.1 x.2.2.1 m_modulus_square_a m_modulus_square_b m_factors_count m_factors_threes m_factors_unit m_factors_primeA m_factors_primeB m_factors_norms m_factors_euclid_count m_factors_euclid_last_a m_factors_euclid_last_b m_factors_euclid_lastOfFirst_a m_factors_euclid_lastOfFirst_b m_factors_euclid_lastOfSecond_a m_factors_euclid_lastOfSecond_b m_factors_euclid_next_a m_factors_euclid_next_b m_factors_euclid_nextOfFirst_a m_factors_euclid_nextOfFirst_b m_factors_euclid_nextOfSecond_a m_factors_euclid_nextOfSecond_b m_factors_euclid_q_a m_factors_euclid_q_b m_factors_euclid_quotientA m_factors_euclid_quotientB m_factors_left_a m_factors_left_b m_factors_found_a m_factors_found_b m_factors_product_a m_factors_product_b m_primes_count m_primes_primeA m_primes_primeB m_primes_found_a m_primes_found_b m_rings_foundA m_rings_foundB m_rings_all m_rings_mostOfOneRow m_letters_count m_letters_bytes m_one_a m_one_b m_two_a m_two_b x.2.2.2.1 x.2.2.2.2.1 m_four_a m_four_b x.2.2.2.2.2.1 x.2.2.2.2.2.2 m_spare_a m_spare_b m_marks) := by
  refine kx_ofMV RX10 rfl (plainFor_of_name (x := yX10_joinClasses) kpn_X10) rfl ?_
  intro E A H ls _ C X R hl
  have hl : lv_has ls 1 [(0, .ref (h 0))] := hl
  rw [f_X10_joinClasses] at hf
  refine x_aload_n 1 C dX10_joinClasses_0 hl 0 rfl rfl ?_
  refine x_get 4 C dX10_joinClasses_1 X kf_X10_35 0 rfl rfl rfl ?_
  refine x_aload_n 5 C dX10_joinClasses_4 hl 0 rfl rfl ?_
  refine x_get 8 C dX10_joinClasses_5 X kf_X10_80 0 rfl rfl rfl ?_
  obtain ⟨y8, hy8, hf⟩ := kx_bind hf
  refine x_callVi 11 C dX10_joinClasses_8 X hl kl_X10_284 (c_X4_open E.2.1 D T (h 19) (h 20) (h 48) N  m_modulus_step m_modulus_width m_modulus_slant m_four_a m_four_b y8 hy8) rfl rfl [] rfl rfl rfl rfl rfl cb_88 rfl (fun H locs X => ?_)
  refine x_pop 12 C dX10_joinClasses_11 rfl rfl ?_
  refine x_aload_n 13 C dX10_joinClasses_12 hl 0 rfl rfl ?_
  refine x_get 16 C dX10_joinClasses_13 X kf_X10_35 0 rfl rfl rfl ?_
  refine x_aload_n 17 C dX10_joinClasses_16 hl 0 rfl rfl ?_
  refine x_get 20 C dX10_joinClasses_17 X kf_X10_83 0 rfl rfl rfl ?_
  obtain ⟨y20, hy20, hf⟩ := kx_bind hf
  refine x_callVv 23 C dX10_joinClasses_20 X hl kl_X10_270 (c_X4_reduce E.2.1 D T (h 19) (h 20) (h 49)  y8.2.1 y8.2.2.1 y8.2.2.2 m_out_a m_out_b y20 hy20) rfl rfl [] rfl rfl rfl rfl rfl cb_102 rfl (fun H locs X => ?_)
  refine x_aload_n 24 C dX10_joinClasses_23 hl 0 rfl rfl ?_
  refine x_get 27 C dX10_joinClasses_24 X kf_X10_77 0 rfl rfl rfl ?_
  refine x_aload_n 28 C dX10_joinClasses_27 hl 0 rfl rfl ?_
  refine x_get 31 C dX10_joinClasses_28 X kf_X10_70 0 rfl rfl rfl ?_
  obtain ⟨y31, hy31, hf⟩ := kx_bind hf
  refine x_callVv 34 C dX10_joinClasses_31 X hl kl_X10_193 (c_X5_subtract E.2.1 D T (h 47) (h 45)  m_three_a m_three_b m_one_a m_one_b y31 hy31) rfl rfl [] rfl rfl rfl rfl rfl cb_119 rfl (fun H locs X => ?_)
  refine x_aload_n 35 C dX10_joinClasses_34 hl 0 rfl rfl ?_
  refine x_get 38 C dX10_joinClasses_35 X kf_X10_35 0 rfl rfl rfl ?_
  refine x_aload_n 39 C dX10_joinClasses_38 hl 0 rfl rfl ?_
  refine x_get 42 C dX10_joinClasses_39 X kf_X10_77 0 rfl rfl rfl ?_
  obtain ⟨y42, hy42, hf⟩ := kx_bind hf
  refine x_callVv 45 C dX10_joinClasses_42 X hl kl_X10_270 (c_X4_reduce E.2.1 D T (h 19) (h 20) (h 47)  y8.2.1 y8.2.2.1 y8.2.2.2 y31.1 y31.2 y42 hy42) rfl rfl [] rfl rfl rfl rfl rfl cb_109 rfl (fun H locs X => ?_)
  refine x_aload_n 46 C dX10_joinClasses_45 hl 0 rfl rfl ?_
  refine x_get 49 C dX10_joinClasses_46 X kf_X10_83 0 rfl rfl rfl ?_
  refine x_aload_n 50 C dX10_joinClasses_49 hl 0 rfl rfl ?_
  refine x_get 53 C dX10_joinClasses_50 X kf_X10_77 0 rfl rfl rfl ?_
  obtain ⟨y53, hy53, hf⟩ := kx_bind hf
  refine x_callVv 56 C dX10_joinClasses_53 X hl kl_X10_196 (c_X5_multiply E.2.1 D T (h 49) (h 47)  y20.1 y20.2 y42.1 y42.2 y53 hy53) rfl rfl [] rfl rfl rfl rfl rfl cb_120 rfl (fun H locs X => ?_)
  refine x_aload_n 57 C dX10_joinClasses_56 hl 0 rfl rfl ?_
  refine x_get 60 C dX10_joinClasses_57 X kf_X10_35 0 rfl rfl rfl ?_
  refine x_aload_n 61 C dX10_joinClasses_60 hl 0 rfl rfl ?_
  refine x_get 64 C dX10_joinClasses_61 X kf_X10_83 0 rfl rfl rfl ?_
  obtain ⟨y64, hy64, hf⟩ := kx_bind hf
  refine x_callVv 67 C dX10_joinClasses_64 X hl kl_X10_270 (c_X4_reduce E.2.1 D T (h 19) (h 20) (h 49)  y8.2.1 y8.2.2.1 y8.2.2.2 y53.1 y53.2 y64 hy64) rfl rfl [] rfl rfl rfl rfl rfl cb_102 rfl (fun H locs X => ?_)
  refine x_aload_n 68 C dX10_joinClasses_67 hl 0 rfl rfl ?_
  refine x_get 71 C dX10_joinClasses_68 X kf_X10_83 0 rfl rfl rfl ?_
  refine x_aload_n 72 C dX10_joinClasses_71 hl 0 rfl rfl ?_
  refine x_get 75 C dX10_joinClasses_72 X kf_X10_74 0 rfl rfl rfl ?_
  obtain ⟨y75, hy75, hf⟩ := kx_bind hf
  refine x_callVv 78 C dX10_joinClasses_75 X hl kl_X10_196 (c_X5_multiply E.2.1 D T (h 49) (h 46)  y64.1 y64.2 m_two_a m_two_b y75 hy75) rfl rfl [] rfl rfl rfl rfl rfl cb_57 rfl (fun H locs X => ?_)
  refine x_aload_n 79 C dX10_joinClasses_78 hl 0 rfl rfl ?_
  refine x_get 82 C dX10_joinClasses_79 X kf_X10_83 0 rfl rfl rfl ?_
  refine x_aload_n 83 C dX10_joinClasses_82 hl 0 rfl rfl ?_
  refine x_get 86 C dX10_joinClasses_83 X kf_X10_70 0 rfl rfl rfl ?_
  obtain ⟨y86, hy86, hf⟩ := kx_bind hf
  refine x_callVv 89 C dX10_joinClasses_86 X hl kl_X10_190 (c_X5_add E.2.1 D T (h 49) (h 45)  y75.1 y75.2 m_one_a m_one_b y86 hy86) rfl rfl [] rfl rfl rfl rfl rfl cb_56 rfl (fun H locs X => ?_)
  refine x_aload_n 90 C dX10_joinClasses_89 hl 0 rfl rfl ?_
  refine x_get 93 C dX10_joinClasses_90 X kf_X10_35 0 rfl rfl rfl ?_
  refine x_aload_n 94 C dX10_joinClasses_93 hl 0 rfl rfl ?_
  refine x_get 97 C dX10_joinClasses_94 X kf_X10_86 0 rfl rfl rfl ?_
  obtain ⟨y97, hy97, hf⟩ := kx_bind hf
  refine x_callVi 100 C dX10_joinClasses_97 X hl kl_X10_284 (c_X4_open E.2.1 D T (h 19) (h 20) (h 50) N  y8.2.1 y8.2.2.1 y8.2.2.2 m_spare_a m_spare_b y97 hy97) rfl rfl [] rfl rfl rfl rfl rfl cb_85 rfl (fun H locs X => ?_)
  refine x_pop 101 C dX10_joinClasses_100 rfl rfl ?_
  refine x_aload_n 102 C dX10_joinClasses_101 hl 0 rfl rfl ?_
  refine x_get 105 C dX10_joinClasses_102 X kf_X10_35 0 rfl rfl rfl ?_
  refine x_aload_n 106 C dX10_joinClasses_105 hl 0 rfl rfl ?_
  refine x_get 109 C dX10_joinClasses_106 X kf_X10_83 0 rfl rfl rfl ?_
  obtain ⟨y109, hy109, hf⟩ := kx_bind hf
  refine x_callVv 112 C dX10_joinClasses_109 X hl kl_X10_270 (c_X4_reduce E.2.1 D T (h 19) (h 20) (h 49)  y97.2.1 y97.2.2.1 y97.2.2.2 y86.1 y86.2 y109 hy109) rfl rfl [] rfl rfl rfl rfl rfl cb_102 rfl (fun H locs X => ?_)
  obtain rfl := Option.some.inj hf
  exact R _ _ _ _ X dX10_joinClasses_112
set_option maxHeartbeats 4000000 in
set_option maxRecDepth 100000 in
theorem w_X10_both_34 {E : KE} {A : Nat → Prop} {D : va_G} {T : KT} (h : Nat → Nat) (C : kx_C E cX10_both 7 (some .int) RX10 5 121 D T) (N : Nat) (x : Int32 × Int32 × Int64 × Int64 × Int64 × Int64 × Int64 × Int64 × Int64 × Int64 × Int64 × Int64 × Int64 × Int64 × Int64 × Int64 × (Nat → Int64) × (Nat → Int64) × Int64 × Int64 × Int64 × Int64 × Int64 × Int64 × Int64 × Int64 × Int64 × Int64 × Int64 × Int64 × Int64 × Int64 × Int64) (m_drawers_full m_drawers_kept : Int32) (m_drawers_partA m_drawers_partB m_drawers_keptA m_drawers_keptB m_drawers_keptFull : Nat → Int32) (m_tape_size m_tape_plain m_tape_omegas m_tape_end m_tape_place m_tape_plainTold m_tape_omegasTold : Int32) (m_tape_bytes : Nat → Int32) (m_modulus_square_a m_modulus_square_b : Int64) (m_factors_count m_factors_threes m_factors_unit : Int32) (m_factors_primeA m_factors_primeB m_factors_norms : Nat → Int64) (m_factors_euclid_count : Int32) (m_factors_euclid_last_a m_factors_euclid_last_b m_factors_euclid_lastOfFirst_a m_factors_euclid_lastOfFirst_b m_factors_euclid_lastOfSecond_a m_factors_euclid_lastOfSecond_b m_factors_euclid_next_a m_factors_euclid_next_b m_factors_euclid_nextOfFirst_a m_factors_euclid_nextOfFirst_b m_factors_euclid_nextOfSecond_a m_factors_euclid_nextOfSecond_b m_factors_euclid_q_a m_factors_euclid_q_b : Int64) (m_factors_euclid_quotientA m_factors_euclid_quotientB : Nat → Int64) (m_factors_left_a m_factors_left_b m_factors_found_a m_factors_found_b m_factors_product_a m_factors_product_b : Int64) (m_primes_count : Int32) (m_primes_primeA m_primes_primeB : Nat → Int32) (m_primes_found_a m_primes_found_b : Int64) (m_rings_foundA m_rings_foundB m_rings_all m_rings_mostOfOneRow m_letters_count : Int32) (m_letters_bytes m_marks : Nat → Int32) (R : kx_RI E cX10_both D A (wC T h m_drawers_full m_drawers_kept m_drawers_partA m_drawers_partB m_drawers_keptA m_drawers_keptB m_drawers_keptFull m_tape_size m_tape_plain m_tape_omegas m_tape_end m_tape_place m_tape_plainTold m_tape_omegasTold m_tape_bytes x.2.1 x.2.2.1 x.2.2.2.1 x.2.2.2.2.1 x.2.2.2.2.2.1 x.2.2.2.2.2.2.1 x.2.2.2.2.2.2.2.1 x.2.2.2.2.2.2.2.2.1 x.2.2.2.2.2.2.2.2.2.1 x.2.2.2.2.2.2.2.2.2.2.1 x.2.2.2.2.2.2.2.2.2.2.2.1 x.2.2.2.2.2.2.2.2.2.2.2.2.1 x.2.2.2.2.2.2.2.2.2.2.2.2.2.1 x.2.2.2.2.2.2.2.2.2.2.2.2.2.2.1 x.2.2.2.2.2.2.2.2.2.2.2.2.2.2.2.1 x.2.2.2.2.2.2.2.2.2.2.2.2.2.2.2.2.1 x.2.2.2.2.2.2.2.2.2.2.2.2.2.2.2.2.2.1 x.2.2.2.2.2.2.2.2.2.2.2.2.2.2.2.2.2.2.1 x.2.2.2.2.2.2.2.2.2.2.2.2.2.2.2.2.2.2.2.1 x.2.2.2.2.2.2.2.2.2.2.2.2.2.2.2.2.2.2.2.2.1 m_modulus_square_a m_modulus_square_b m_factors_count m_factors_threes m_factors_unit m_factors_primeA m_factors_primeB m_factors_norms m_factors_euclid_count m_factors_euclid_last_a m_factors_euclid_last_b m_factors_euclid_lastOfFirst_a m_factors_euclid_lastOfFirst_b m_factors_euclid_lastOfSecond_a m_factors_euclid_lastOfSecond_b m_factors_euclid_next_a m_factors_euclid_next_b m_factors_euclid_nextOfFirst_a m_factors_euclid_nextOfFirst_b m_factors_euclid_nextOfSecond_a m_factors_euclid_nextOfSecond_b m_factors_euclid_q_a m_factors_euclid_q_b m_factors_euclid_quotientA m_factors_euclid_quotientB m_factors_left_a m_factors_left_b m_factors_found_a m_factors_found_b m_factors_product_a m_factors_product_b m_primes_count m_primes_primeA m_primes_primeB m_primes_found_a m_primes_found_b m_rings_foundA m_rings_foundB m_rings_all m_rings_mostOfOneRow m_letters_count m_letters_bytes x.2.2.2.2.2.2.2.2.2.2.2.2.2.2.2.2.2.2.2.2.2.1 x.2.2.2.2.2.2.2.2.2.2.2.2.2.2.2.2.2.2.2.2.2.2.1 x.2.2.2.2.2.2.2.2.2.2.2.2.2.2.2.2.2.2.2.2.2.2.2.1 x.2.2.2.2.2.2.2.2.2.2.2.2.2.2.2.2.2.2.2.2.2.2.2.2.1 x.2.2.2.2.2.2.2.2.2.2.2.2.2.2.2.2.2.2.2.2.2.2.2.2.2.1 x.2.2.2.2.2.2.2.2.2.2.2.2.2.2.2.2.2.2.2.2.2.2.2.2.2.2.1 x.2.2.2.2.2.2.2.2.2.2.2.2.2.2.2.2.2.2.2.2.2.2.2.2.2.2.2.1 x.2.2.2.2.2.2.2.2.2.2.2.2.2.2.2.2.2.2.2.2.2.2.2.2.2.2.2.2.1 x.2.2.2.2.2.2.2.2.2.2.2.2.2.2.2.2.2.2.2.2.2.2.2.2.2.2.2.2.2.1 x.2.2.2.2.2.2.2.2.2.2.2.2.2.2.2.2.2.2.2.2.2.2.2.2.2.2.2.2.2.2.1 x.2.2.2.2.2.2.2.2.2.2.2.2.2.2.2.2.2.2.2.2.2.2.2.2.2.2.2.2.2.2.2.1 x.2.2.2.2.2.2.2.2.2.2.2.2.2.2.2.2.2.2.2.2.2.2.2.2.2.2.2.2.2.2.2.2 m_marks) x.1) : ∀ (m_euclid_count : Int32) (m_euclid_last_a m_euclid_last_b m_euclid_lastOfFirst_a m_euclid_lastOfFirst_b m_euclid_lastOfSecond_a m_euclid_lastOfSecond_b m_euclid_next_a m_euclid_next_b m_euclid_nextOfFirst_a m_euclid_nextOfFirst_b m_euclid_nextOfSecond_a m_euclid_nextOfSecond_b m_euclid_q_a m_euclid_q_b : Int64) (m_euclid_quotientA m_euclid_quotientB : Nat → Int64) (m_modulus_step m_modulus_width m_modulus_slant m_one_a m_one_b m_two_a m_two_b m_three_a m_three_b m_four_a m_four_b m_out_a m_out_b m_spare_a m_spare_b : Int64) (v1 v2 v3 v4 v5 s0 : Int32) (H : Heap) (locs : List Loc) (ls : Array Slot), kx_H E D A H locs (wC T h m_drawers_full m_drawers_kept m_drawers_partA m_drawers_partB m_drawers_keptA m_drawers_keptB m_drawers_keptFull m_tape_size m_tape_plain m_tape_omegas m_tape_end m_tape_place m_tape_plainTold m_tape_omegasTold m_tape_bytes m_euclid_count m_euclid_last_a m_euclid_last_b m_euclid_lastOfFirst_a m_euclid_lastOfFirst_b m_euclid_lastOfSecond_a m_euclid_lastOfSecond_b m_euclid_next_a m_euclid_next_b m_euclid_nextOfFirst_a m_euclid_nextOfFirst_b m_euclid_nextOfSecond_a m_euclid_nextOfSecond_b m_euclid_q_a m_euclid_q_b m_euclid_quotientA m_euclid_quotientB m_modulus_step m_modulus_width m_modulus_slant m_modulus_square_a m_modulus_square_b m_factors_count m_factors_threes m_factors_unit m_factors_primeA m_factors_primeB m_factors_norms m_factors_euclid_count m_factors_euclid_last_a m_factors_euclid_last_b m_factors_euclid_lastOfFirst_a m_factors_euclid_lastOfFirst_b m_factors_euclid_lastOfSecond_a m_factors_euclid_lastOfSecond_b m_factors_euclid_next_a m_factors_euclid_next_b m_factors_euclid_nextOfFirst_a m_factors_euclid_nextOfFirst_b m_factors_euclid_nextOfSecond_a m_factors_euclid_nextOfSecond_b m_factors_euclid_q_a m_factors_euclid_q_b m_factors_euclid_quotientA m_factors_euclid_quotientB m_factors_left_a m_factors_left_b m_factors_found_a m_factors_found_b m_factors_product_a m_factors_product_b m_primes_count m_primes_primeA m_primes_primeB m_primes_found_a m_primes_found_b m_rings_foundA m_rings_foundB m_rings_all m_rings_mostOfOneRow m_letters_count m_letters_bytes m_one_a m_one_b m_two_a m_two_b m_three_a m_three_b m_four_a m_four_b m_out_a m_out_b m_spare_a m_spare_b m_marks) → lv_has ls 7 [(0, .ref (h 0)), (1, .int v1), (2, .int v2), (3, .int v3), (4, .int v4), (5, .int v5)] → f_X10_both_34 N v1 v2 v3 v4 v5 s0 m_drawers_full m_drawers_partA m_drawers_partB m_euclid_count m_euclid_last_a m_euclid_last_b m_euclid_lastOfFirst_a m_euclid_lastOfFirst_b m_euclid_lastOfSecond_a m_euclid_lastOfSecond_b m_euclid_next_a m_euclid_next_b m_euclid_nextOfFirst_a m_euclid_nextOfFirst_b m_euclid_nextOfSecond_a m_euclid_nextOfSecond_b m_euclid_q_a m_euclid_q_b m_euclid_quotientA m_euclid_quotientB m_modulus_step m_modulus_width m_modulus_slant m_one_a m_one_b m_two_a m_two_b m_three_a m_three_b m_four_a m_four_b m_out_a m_out_b m_spare_a m_spare_b = some x → kx_W E H locs 34 ls [.int s0] := by
  intro m_euclid_count m_euclid_last_a m_euclid_last_b m_euclid_lastOfFirst_a m_euclid_lastOfFirst_b m_euclid_lastOfSecond_a m_euclid_lastOfSecond_b m_euclid_next_a m_euclid_next_b m_euclid_nextOfFirst_a m_euclid_nextOfFirst_b m_euclid_nextOfSecond_a m_euclid_nextOfSecond_b m_euclid_q_a m_euclid_q_b m_euclid_quotientA m_euclid_quotientB m_modulus_step m_modulus_width m_modulus_slant m_one_a m_one_b m_two_a m_two_b m_three_a m_three_b m_four_a m_four_b m_out_a m_out_b m_spare_a m_spare_b v1 v2 v3 v4 v5 s0 H locs ls X hl hf
  rw [f_X10_both_34] at hf
  refine x_istore 36 C dX10_both_34 [(6, .int s0), (0, .ref (h 0)), (1, .int v1), (2, .int v2), (3, .int v3), (4, .int v4), (5, .int v5)] hl rfl rfl rfl (fun ls hl => ?_)
  refine x_iload 38 C dX10_both_36 hl 0 rfl rfl ?_
  refine x_if_eq 52 41 C dX10_both_38 rfl rfl hf (fun hf => ?_) (fun hf => ?_)
  · refine x_iconst 53 C dX10_both_52 (-1 : Int32) kv_iconst_m1 rfl ?_
    obtain rfl := Option.some.inj hf
    exact R _ _ _ _ X dX10_both_53
  refine x_iload 43 C dX10_both_41 hl 6 rfl rfl ?_
  refine x_if_lt 52 46 C dX10_both_43 rfl rfl hf (fun hf => ?_) (fun hf => ?_)
  · refine x_iconst 53 C dX10_both_52 (-1 : Int32) kv_iconst_m1 rfl ?_
    obtain rfl := Option.some.inj hf
    exact R _ _ _ _ X dX10_both_53
  refine x_iload 48 C dX10_both_46 hl 6 rfl rfl ?_
  refine x_iconst 49 C dX10_both_48 (1 : Int32) kv_iconst_1 rfl ?_
  refine x_icmp_le 54 52 C dX10_both_49 rfl rfl hf (fun hf => ?_) (fun hf => ?_)
  · refine x_aload_n 55 C dX10_both_54 hl 1 rfl rfl ?_
    refine x_iload_n 56 C dX10_both_55 hl 2 rfl rfl ?_
    refine x_iload_n 57 C dX10_both_56 hl 3 rfl rfl ?_
    obtain ⟨y57, hy57, hf⟩ := kx_bind hf
    refine x_callVi0 60 C dX10_both_57 X hl kl_X10_176 (c_X10_loadTwo E.2.1 D T h v1 v2 m_drawers_full m_drawers_kept m_drawers_partA m_drawers_partB m_drawers_keptA m_drawers_keptB m_drawers_keptFull m_tape_size m_tape_plain m_tape_omegas m_tape_end m_tape_place m_tape_plainTold m_tape_omegasTold m_tape_bytes m_euclid_count m_euclid_last_a m_euclid_last_b m_euclid_lastOfFirst_a m_euclid_lastOfFirst_b m_euclid_lastOfSecond_a m_euclid_lastOfSecond_b m_euclid_next_a m_euclid_next_b m_euclid_nextOfFirst_a m_euclid_nextOfFirst_b m_euclid_nextOfSecond_a m_euclid_nextOfSecond_b m_euclid_q_a m_euclid_q_b m_euclid_quotientA m_euclid_quotientB m_modulus_step m_modulus_width m_modulus_slant m_modulus_square_a m_modulus_square_b m_factors_count m_factors_threes m_factors_unit m_factors_primeA m_factors_primeB m_factors_norms m_factors_euclid_count m_factors_euclid_last_a m_factors_euclid_last_b m_factors_euclid_lastOfFirst_a m_factors_euclid_lastOfFirst_b m_factors_euclid_lastOfSecond_a m_factors_euclid_lastOfSecond_b m_factors_euclid_next_a m_factors_euclid_next_b m_factors_euclid_nextOfFirst_a m_factors_euclid_nextOfFirst_b m_factors_euclid_nextOfSecond_a m_factors_euclid_nextOfSecond_b m_factors_euclid_q_a m_factors_euclid_q_b m_factors_euclid_quotientA m_factors_euclid_quotientB m_factors_left_a m_factors_left_b m_factors_found_a m_factors_found_b m_factors_product_a m_factors_product_b m_primes_count m_primes_primeA m_primes_primeB m_primes_found_a m_primes_found_b m_rings_foundA m_rings_foundB m_rings_all m_rings_mostOfOneRow m_letters_count m_letters_bytes m_one_a m_one_b m_two_a m_two_b m_three_a m_three_b m_four_a m_four_b m_out_a m_out_b m_spare_a m_spare_b m_marks y57 hy57) rfl rfl [] rfl rfl rfl rfl rfl rfl (fun H locs X => ?_)
    refine x_if_ne 86 63 C dX10_both_60 rfl rfl hf (fun hf => ?_) (fun hf => ?_)
    · refine x_bipush 88 C dX10_both_86 (-2 : Int32) kv_bipush_m2 rfl ?_
      obtain rfl := Option.some.inj hf
      exact R _ _ _ _ X dX10_both_88
    refine x_aload_n 64 C dX10_both_63 hl 1 rfl rfl ?_
    refine x_get 67 C dX10_both_64 X kf_X10_12 0 rfl rfl rfl ?_
    refine x_iload_n 68 C dX10_both_67 hl 4 rfl rfl ?_
    obtain ⟨y68, hy68, hf⟩ := kx_bind hf
    refine x_callVi 71 C dX10_both_68 X hl kl_X10_130 (c_X0_has E.2.1 D T (h 1) (h 2) (h 3) (h 4) (h 5) (h 6) v3 m_drawers_full m_drawers_kept y68 hy68) rfl rfl [] rfl rfl rfl rfl rfl cb_9 rfl (fun H locs X => ?_)
    refine x_if_eq 86 74 C dX10_both_71 rfl rfl hf (fun hf => ?_) (fun hf => ?_)
    · refine x_bipush 88 C dX10_both_86 (-2 : Int32) kv_bipush_m2 rfl ?_
      obtain rfl := Option.some.inj hf
      exact R _ _ _ _ X dX10_both_88
    refine x_aload_n 75 C dX10_both_74 hl 1 rfl rfl ?_
    refine x_get 78 C dX10_both_75 X kf_X10_12 0 rfl rfl rfl ?_
    refine x_iload 80 C dX10_both_78 hl 5 rfl rfl ?_
    obtain ⟨y80, hy80, hf⟩ := kx_bind hf
    refine x_callVi 83 C dX10_both_80 X hl kl_X10_130 (c_X0_has E.2.1 D T (h 1) (h 2) (h 3) (h 4) (h 5) (h 6) v4 m_drawers_full m_drawers_kept y80 hy80) rfl rfl [] rfl rfl rfl rfl rfl cb_9 rfl (fun H locs X => ?_)
    refine x_if_ne 89 86 C dX10_both_83 rfl rfl hf (fun hf => ?_) (fun hf => ?_)
    · refine x_aload_n 90 C dX10_both_89 hl 1 rfl rfl ?_
      refine x_get 93 C dX10_both_90 X kf_X10_12 0 rfl rfl rfl ?_
      refine x_iload_n 94 C dX10_both_93 hl 4 rfl rfl ?_
      refine x_aload_n 95 C dX10_both_94 hl 1 rfl rfl ?_
      refine x_get 98 C dX10_both_95 X kf_X10_77 0 rfl rfl rfl ?_
      obtain ⟨y98, hy98, hf⟩ := kx_bind hf
      refine x_callVv 101 C dX10_both_98 X hl kl_X10_141 (c_X0_load E.2.1 D T (h 1) (h 2) (h 3) (h 4) (h 5) (h 6) (h 47) v3 m_drawers_full m_drawers_kept m_drawers_partA m_drawers_partB m_three_a m_three_b y98 hy98) rfl rfl [] rfl rfl rfl rfl rfl cb_108 rfl (fun H locs X => ?_)
      refine x_aload_n 102 C dX10_both_101 hl 1 rfl rfl ?_
      refine x_get 105 C dX10_both_102 X kf_X10_12 0 rfl rfl rfl ?_
      refine x_iload 107 C dX10_both_105 hl 5 rfl rfl ?_
      refine x_aload_n 108 C dX10_both_107 hl 1 rfl rfl ?_
      refine x_get 111 C dX10_both_108 X kf_X10_80 0 rfl rfl rfl ?_
      obtain ⟨y111, hy111, hf⟩ := kx_bind hf
      refine x_callVv 114 C dX10_both_111 X hl kl_X10_141 (c_X0_load E.2.1 D T (h 1) (h 2) (h 3) (h 4) (h 5) (h 6) (h 48) v4 m_drawers_full m_drawers_kept m_drawers_partA m_drawers_partB m_four_a m_four_b y111 hy111) rfl rfl [] rfl rfl rfl rfl rfl cb_116 rfl (fun H locs X => ?_)
      refine x_aload_n 115 C dX10_both_114 hl 1 rfl rfl ?_
      refine x_get 118 C dX10_both_115 X kf_X10_74 0 rfl rfl rfl ?_
      obtain ⟨y118, hy118, hf⟩ := kx_bind hf
      refine x_callVi 121 C dX10_both_118 X hl kl_X10_170 (c_X5_isNought E.2.1 D T (h 46)  y57.2.2.2.1 y57.2.2.2.2 y118 hy118) rfl rfl [] rfl rfl rfl rfl rfl cb_55 rfl (fun H locs X => ?_)
      refine x_if_ne 156 124 C dX10_both_121 rfl rfl hf (fun hf => ?_) (fun hf => ?_)
      · refine x_bipush 158 C dX10_both_156 (-3 : Int32) kv_bipush_m3 rfl ?_
        obtain rfl := Option.some.inj hf
        exact R _ _ _ _ X dX10_both_158
      refine x_aload_n 125 C dX10_both_124 hl 1 rfl rfl ?_
      refine x_get 128 C dX10_both_125 X kf_X10_80 0 rfl rfl rfl ?_
      obtain ⟨y128, hy128, hf⟩ := kx_bind hf
      refine x_callVi 131 C dX10_both_128 X hl kl_X10_170 (c_X5_isNought E.2.1 D T (h 48)  y111.1 y111.2 y128 hy128) rfl rfl [] rfl rfl rfl rfl rfl cb_87 rfl (fun H locs X => ?_)
      refine x_if_ne 156 134 C dX10_both_131 rfl rfl hf (fun hf => ?_) (fun hf => ?_)
      · refine x_bipush 158 C dX10_both_156 (-3 : Int32) kv_bipush_m3 rfl ?_
        obtain rfl := Option.some.inj hf
        exact R _ _ _ _ X dX10_both_158
      refine x_aload_n 135 C dX10_both_134 hl 1 rfl rfl ?_
      refine x_get 138 C dX10_both_135 X kf_X10_28 0 rfl rfl rfl ?_
      refine x_aload_n 139 C dX10_both_138 hl 1 rfl rfl ?_
      refine x_get 142 C dX10_both_139 X kf_X10_74 0 rfl rfl rfl ?_
      refine x_aload_n 143 C dX10_both_142 hl 1 rfl rfl ?_
      refine x_get 146 C dX10_both_143 X kf_X10_80 0 rfl rfl rfl ?_
      refine x_aload_n 147 C dX10_both_146 hl 1 rfl rfl ?_
      refine x_get 150 C dX10_both_147 X kf_X10_83 0 rfl rfl rfl ?_
      obtain ⟨y150, hy150, hf⟩ := kx_bind hf
      refine x_callVi 153 C dX10_both_150 X hl kl_X10_280 (c_X1_invert E.2.1 D T (h 9) (h 10) (h 11) (h 12) (h 13) (h 14) (h 15) (h 16) (h 17) (h 18) (h 46) (h 48) (h 49) N  m_euclid_count m_euclid_last_a m_euclid_last_b m_euclid_lastOfFirst_a m_euclid_lastOfFirst_b m_euclid_lastOfSecond_a m_euclid_lastOfSecond_b m_euclid_next_a m_euclid_next_b m_euclid_nextOfFirst_a m_euclid_nextOfFirst_b m_euclid_nextOfSecond_a m_euclid_nextOfSecond_b m_euclid_q_a m_euclid_q_b m_euclid_quotientA m_euclid_quotientB y57.2.2.2.1 y57.2.2.2.2 y111.1 y111.2 m_out_a m_out_b y150 hy150) rfl rfl [] rfl rfl rfl rfl rfl cb_117 rfl (fun H locs X => ?_)
      refine x_if_ne 159 156 C dX10_both_153 rfl rfl hf (fun hf => ?_) (fun hf => ?_)
      · refine x_aload_n 160 C dX10_both_159 hl 1 rfl rfl ?_
        refine x_get 163 C dX10_both_160 X kf_X10_86 0 rfl rfl rfl ?_
        refine x_aload_n 164 C dX10_both_163 hl 1 rfl rfl ?_
        refine x_get 167 C dX10_both_164 X kf_X10_74 0 rfl rfl rfl ?_
        obtain ⟨y167, hy167, hf⟩ := kx_bind hf
        refine x_callVv 170 C dX10_both_167 X hl kl_X10_186 (c_X5_copy E.2.1 D T (h 50) (h 46)  m_spare_a m_spare_b y57.2.2.2.1 y57.2.2.2.2 y167 hy167) rfl rfl [] rfl rfl rfl rfl rfl cb_60 rfl (fun H locs X => ?_)
        refine x_aload_n 171 C dX10_both_170 hl 1 rfl rfl ?_
        refine x_get 174 C dX10_both_171 X kf_X10_86 0 rfl rfl rfl ?_
        refine x_aload_n 175 C dX10_both_174 hl 1 rfl rfl ?_
        refine x_get 178 C dX10_both_175 X kf_X10_80 0 rfl rfl rfl ?_
        obtain ⟨y178, hy178, hf⟩ := kx_bind hf
        refine x_callVv 181 C dX10_both_178 X hl kl_X10_196 (c_X5_multiply E.2.1 D T (h 50) (h 48)  y167.1 y167.2 y111.1 y111.2 y178 hy178) rfl rfl [] rfl rfl rfl rfl rfl cb_118 rfl (fun H locs X => ?_)
        refine x_aload_n 182 C dX10_both_181 hl 1 rfl rfl ?_
        refine x_get 185 C dX10_both_182 X kf_X10_86 0 rfl rfl rfl ?_
        obtain ⟨y185, hy185, hf⟩ := kx_bind hf
        refine x_callVi 188 C dX10_both_185 X hl kl_X10_126 (c_X5_fits E.2.1 D T (h 50)  y178.1 y178.2 y185 hy185) rfl rfl [] rfl rfl rfl rfl rfl cb_8 rfl (fun H locs X => ?_)
        refine x_if_ne 194 191 C dX10_both_188 rfl rfl hf (fun hf => ?_) (fun hf => ?_)
        · refine x_aload_n 195 C dX10_both_194 hl 1 rfl rfl ?_
          obtain ⟨y195, hy195, hf⟩ := kx_bind hf
          refine x_callVv0 198 C dX10_both_195 X hl kl_X10_355 (c_X10_joinClasses E.2.1 D T h N  m_drawers_full m_drawers_kept m_drawers_partA m_drawers_partB m_drawers_keptA m_drawers_keptB m_drawers_keptFull m_tape_size m_tape_plain m_tape_omegas m_tape_end m_tape_place m_tape_plainTold m_tape_omegasTold m_tape_bytes y150.2.1 y150.2.2.1 y150.2.2.2.1 y150.2.2.2.2.1 y150.2.2.2.2.2.1 y150.2.2.2.2.2.2.1 y150.2.2.2.2.2.2.2.1 y150.2.2.2.2.2.2.2.2.1 y150.2.2.2.2.2.2.2.2.2.1 y150.2.2.2.2.2.2.2.2.2.2.1 y150.2.2.2.2.2.2.2.2.2.2.2.1 y150.2.2.2.2.2.2.2.2.2.2.2.2.1 y150.2.2.2.2.2.2.2.2.2.2.2.2.2.1 y150.2.2.2.2.2.2.2.2.2.2.2.2.2.2.1 y150.2.2.2.2.2.2.2.2.2.2.2.2.2.2.2.1 y150.2.2.2.2.2.2.2.2.2.2.2.2.2.2.2.2.1 y150.2.2.2.2.2.2.2.2.2.2.2.2.2.2.2.2.2.1 m_modulus_step m_modulus_width m_modulus_slant m_modulus_square_a m_modulus_square_b m_factors_count m_factors_threes m_factors_unit m_factors_primeA m_factors_primeB m_factors_norms m_factors_euclid_count m_factors_euclid_last_a m_factors_euclid_last_b m_factors_euclid_lastOfFirst_a m_factors_euclid_lastOfFirst_b m_factors_euclid_lastOfSecond_a m_factors_euclid_lastOfSecond_b m_factors_euclid_next_a m_factors_euclid_next_b m_factors_euclid_nextOfFirst_a m_factors_euclid_nextOfFirst_b m_factors_euclid_nextOfSecond_a m_factors_euclid_nextOfSecond_b m_factors_euclid_q_a m_factors_euclid_q_b m_factors_euclid_quotientA m_factors_euclid_quotientB m_factors_left_a m_factors_left_b m_factors_found_a m_factors_found_b m_factors_product_a m_factors_product_b m_primes_count m_primes_primeA m_primes_primeB m_primes_found_a m_primes_found_b m_rings_foundA m_rings_foundB m_rings_all m_rings_mostOfOneRow m_letters_count m_letters_bytes y57.2.1 y57.2.2.1 y57.2.2.2.1 y57.2.2.2.2 y98.1 y98.2 y111.1 y111.2 y150.2.2.2.2.2.2.2.2.2.2.2.2.2.2.2.2.2.2.1 y150.2.2.2.2.2.2.2.2.2.2.2.2.2.2.2.2.2.2.2 y178.1 y178.2 m_marks y195 hy195) rfl rfl [] rfl rfl rfl rfl rfl rfl (fun H locs X => ?_)
          refine x_aload_n 199 C dX10_both_198 hl 1 rfl rfl ?_
          refine x_get 202 C dX10_both_199 X kf_X10_83 0 rfl rfl rfl ?_
          refine x_iload 204 C dX10_both_202 hl 6 rfl rfl ?_
          obtain ⟨y204, hy204, hf⟩ := kx_bind hf
          refine x_callSi 207 C dX10_both_204 X hl kl_X10_273 (c_X10_part E.2.1 D T (h 49) v5 y195.2.2.2.2.2.1 y195.2.2.2.2.2.2 y204 hy204) [] rfl rfl rfl rfl rfl cb_73 rfl (fun H locs X => ?_)
          obtain rfl := Option.some.inj hf
          exact R _ _ _ _ X dX10_both_207
        refine x_bipush 193 C dX10_both_191 (-4 : Int32) kv_bipush_m4 rfl ?_
        obtain rfl := Option.some.inj hf
        exact R _ _ _ _ X dX10_both_193
      refine x_bipush 158 C dX10_both_156 (-3 : Int32) kv_bipush_m3 rfl ?_
      obtain rfl := Option.some.inj hf
      exact R _ _ _ _ X dX10_both_158
    refine x_bipush 88 C dX10_both_86 (-2 : Int32) kv_bipush_m2 rfl ?_
    obtain rfl := Option.some.inj hf
    exact R _ _ _ _ X dX10_both_88
  refine x_iconst 53 C dX10_both_52 (-1 : Int32) kv_iconst_m1 rfl ?_
  obtain rfl := Option.some.inj hf
  exact R _ _ _ _ X dX10_both_53
set_option maxHeartbeats 4000000 in
set_option maxRecDepth 100000 in
theorem c_X10_both (l : Launch) (D : va_G) (T : KT) (h : Nat → Nat) (N : Nat) (v1 v2 v3 v4 v5 : Int32) (m_drawers_full m_drawers_kept : Int32) (m_drawers_partA m_drawers_partB m_drawers_keptA m_drawers_keptB m_drawers_keptFull : Nat → Int32) (m_tape_size m_tape_plain m_tape_omegas m_tape_end m_tape_place m_tape_plainTold m_tape_omegasTold : Int32) (m_tape_bytes : Nat → Int32) (m_euclid_count : Int32) (m_euclid_last_a m_euclid_last_b m_euclid_lastOfFirst_a m_euclid_lastOfFirst_b m_euclid_lastOfSecond_a m_euclid_lastOfSecond_b m_euclid_next_a m_euclid_next_b m_euclid_nextOfFirst_a m_euclid_nextOfFirst_b m_euclid_nextOfSecond_a m_euclid_nextOfSecond_b m_euclid_q_a m_euclid_q_b : Int64) (m_euclid_quotientA m_euclid_quotientB : Nat → Int64) (m_modulus_step m_modulus_width m_modulus_slant m_modulus_square_a m_modulus_square_b : Int64) (m_factors_count m_factors_threes m_factors_unit : Int32) (m_factors_primeA m_factors_primeB m_factors_norms : Nat → Int64) (m_factors_euclid_count : Int32) (m_factors_euclid_last_a m_factors_euclid_last_b m_factors_euclid_lastOfFirst_a m_factors_euclid_lastOfFirst_b m_factors_euclid_lastOfSecond_a m_factors_euclid_lastOfSecond_b m_factors_euclid_next_a m_factors_euclid_next_b m_factors_euclid_nextOfFirst_a m_factors_euclid_nextOfFirst_b m_factors_euclid_nextOfSecond_a m_factors_euclid_nextOfSecond_b m_factors_euclid_q_a m_factors_euclid_q_b : Int64) (m_factors_euclid_quotientA m_factors_euclid_quotientB : Nat → Int64) (m_factors_left_a m_factors_left_b m_factors_found_a m_factors_found_b m_factors_product_a m_factors_product_b : Int64) (m_primes_count : Int32) (m_primes_primeA m_primes_primeB : Nat → Int32) (m_primes_found_a m_primes_found_b : Int64) (m_rings_foundA m_rings_foundB m_rings_all m_rings_mostOfOneRow m_letters_count : Int32) (m_letters_bytes : Nat → Int32) (m_one_a m_one_b m_two_a m_two_b m_three_a m_three_b m_four_a m_four_b m_out_a m_out_b m_spare_a m_spare_b : Int64) (m_marks : Nat → Int32) (x : Int32 × Int32 × Int64 × Int64 × Int64 × Int64 × Int64 × Int64 × Int64 × Int64 × Int64 × Int64 × Int64 × Int64 × Int64 × Int64 × (Nat → Int64) × (Nat → Int64) × Int64 × Int64 × Int64 × Int64 × Int64 × Int64 × Int64 × Int64 × Int64 × Int64 × Int64 × Int64 × Int64 × Int64 × Int64) (hf : f_X10_both N v1 v2 v3 v4 v5 m_drawers_full m_drawers_partA m_drawers_partB m_euclid_count m_euclid_last_a m_euclid_last_b m_euclid_lastOfFirst_a m_euclid_lastOfFirst_b m_euclid_lastOfSecond_a m_euclid_lastOfSecond_b m_euclid_next_a m_euclid_next_b m_euclid_nextOfFirst_a m_euclid_nextOfFirst_b m_euclid_nextOfSecond_a m_euclid_nextOfSecond_b m_euclid_q_a m_euclid_q_b m_euclid_quotientA m_euclid_quotientB m_modulus_step m_modulus_width m_modulus_slant m_one_a m_one_b m_two_a m_two_b m_three_a m_three_b m_four_a m_four_b m_out_a m_out_b m_spare_a m_spare_b = some x) : kx_MI l yX10_both cX10_both 7 (some .int) 5 121 D T [.ref (h 0), .int v1, .int v2, .int v3, .int v4, .int v5] (wC T h m_drawers_full m_drawers_kept m_drawers_partA m_drawers_partB m_drawers_keptA m_drawers_keptB m_drawers_keptFull m_tape_size m_tape_plain m_tape_omegas m_tape_end m_tape_place m_tape_plainTold m_tape_omegasTold m_tape_bytes m_euclid_count m_euclid_last_a m_euclid_last_b m_euclid_lastOfFirst_a m_euclid_lastOfFirst_b m_euclid_lastOfSecond_a m_euclid_lastOfSecond_b m_euclid_next_a m_euclid_next_b m_euclid_nextOfFirst_a m_euclid_nextOfFirst_b m_euclid_nextOfSecond_a m_euclid_nextOfSecond_b m_euclid_q_a m_euclid_q_b m_euclid_quotientA m_euclid_quotientB m_modulus_step m_modulus_width m_modulus_slant m_modulus_square_a m_modulus_square_b m_factors_count m_factors_threes m_factors_unit m_factors_primeA m_factors_primeB m_factors_norms m_factors_euclid_count m_factors_euclid_last_a m_factors_euclid_last_b m_factors_euclid_lastOfFirst_a m_factors_euclid_lastOfFirst_b m_factors_euclid_lastOfSecond_a m_factors_euclid_lastOfSecond_b m_factors_euclid_next_a m_factors_euclid_next_b m_factors_euclid_nextOfFirst_a m_factors_euclid_nextOfFirst_b m_factors_euclid_nextOfSecond_a m_factors_euclid_nextOfSecond_b m_factors_euclid_q_a m_factors_euclid_q_b m_factors_euclid_quotientA m_factors_euclid_quotientB m_factors_left_a m_factors_left_b m_factors_found_a m_factors_found_b m_factors_product_a m_factors_product_b m_primes_count m_primes_primeA m_primes_primeB m_primes_found_a m_primes_found_b m_rings_foundA m_rings_foundB m_rings_all m_rings_mostOfOneRow m_letters_count m_letters_bytes m_one_a m_one_b m_two_a m_two_b m_three_a m_three_b m_four_a m_four_b m_out_a m_out_b m_spare_a m_spare_b m_marks) (wC T h m_drawers_full m_drawers_kept m_drawers_partA m_drawers_partB m_drawers_keptA m_drawers_keptB m_drawers_keptFull m_tape_size m_tape_plain m_tape_omegas m_tape_end m_tape_place m_tape_plainTold m_tape_omegasTold m_tape_bytes x.2.1 x.2.2.1 x.2.2.2.1 x.2.2.2.2.1 x.2.2.2.2.2.1 x.2.2.2.2.2.2.1 x.2.2.2.2.2.2.2.1 x.2.2.2.2.2.2.2.2.1 x.2.2.2.2.2.2.2.2.2.1 x.2.2.2.2.2.2.2.2.2.2.1 x.2.2.2.2.2.2.2.2.2.2.2.1 x.2.2.2.2.2.2.2.2.2.2.2.2.1 x.2.2.2.2.2.2.2.2.2.2.2.2.2.1 x.2.2.2.2.2.2.2.2.2.2.2.2.2.2.1 x.2.2.2.2.2.2.2.2.2.2.2.2.2.2.2.1 x.2.2.2.2.2.2.2.2.2.2.2.2.2.2.2.2.1 x.2.2.2.2.2.2.2.2.2.2.2.2.2.2.2.2.2.1 x.2.2.2.2.2.2.2.2.2.2.2.2.2.2.2.2.2.2.1 x.2.2.2.2.2.2.2.2.2.2.2.2.2.2.2.2.2.2.2.1 x.2.2.2.2.2.2.2.2.2.2.2.2.2.2.2.2.2.2.2.2.1 m_modulus_square_a m_modulus_square_b m_factors_count m_factors_threes m_factors_unit m_factors_primeA m_factors_primeB m_factors_norms m_factors_euclid_count m_factors_euclid_last_a m_factors_euclid_last_b m_factors_euclid_lastOfFirst_a m_factors_euclid_lastOfFirst_b m_factors_euclid_lastOfSecond_a m_factors_euclid_lastOfSecond_b m_factors_euclid_next_a m_factors_euclid_next_b m_factors_euclid_nextOfFirst_a m_factors_euclid_nextOfFirst_b m_factors_euclid_nextOfSecond_a m_factors_euclid_nextOfSecond_b m_factors_euclid_q_a m_factors_euclid_q_b m_factors_euclid_quotientA m_factors_euclid_quotientB m_factors_left_a m_factors_left_b m_factors_found_a m_factors_found_b m_factors_product_a m_factors_product_b m_primes_count m_primes_primeA m_primes_primeB m_primes_found_a m_primes_found_b m_rings_foundA m_rings_foundB m_rings_all m_rings_mostOfOneRow m_letters_count m_letters_bytes x.2.2.2.2.2.2.2.2.2.2.2.2.2.2.2.2.2.2.2.2.2.1 x.2.2.2.2.2.2.2.2.2.2.2.2.2.2.2.2.2.2.2.2.2.2.1 x.2.2.2.2.2.2.2.2.2.2.2.2.2.2.2.2.2.2.2.2.2.2.2.1 x.2.2.2.2.2.2.2.2.2.2.2.2.2.2.2.2.2.2.2.2.2.2.2.2.1 x.2.2.2.2.2.2.2.2.2.2.2.2.2.2.2.2.2.2.2.2.2.2.2.2.2.1 x.2.2.2.2.2.2.2.2.2.2.2.2.2.2.2.2.2.2.2.2.2.2.2.2.2.2.1 x.2.2.2.2.2.2.2.2.2.2.2.2.2.2.2.2.2.2.2.2.2.2.2.2.2.2.2.1 x.2.2.2.2.2.2.2.2.2.2.2.2.2.2.2.2.2.2.2.2.2.2.2.2.2.2.2.2.1 x.2.2.2.2.2.2.2.2.2.2.2.2.2.2.2.2.2.2.2.2.2.2.2.2.2.2.2.2.2.1 x.2.2.2.2.2.2.2.2.2.2.2.2.2.2.2.2.2.2.2.2.2.2.2.2.2.2.2.2.2.2.1 x.2.2.2.2.2.2.2.2.2.2.2.2.2.2.2.2.2.2.2.2.2.2.2.2.2.2.2.2.2.2.2.1 x.2.2.2.2.2.2.2.2.2.2.2.2.2.2.2.2.2.2.2.2.2.2.2.2.2.2.2.2.2.2.2.2 m_marks) x.1 := by
  refine kx_ofMI RX10 rfl (plainFor_of_name (x := yX10_both) kpn_X10) rfl ?_
  intro E A H ls _ C X R hl
  have hl : lv_has ls 7 [(0, .ref (h 0)), (1, .int v1), (2, .int v2), (3, .int v3), (4, .int v4), (5, .int v5)] := hl
  rw [f_X10_both] at hf
  refine x_iload_n 1 C dX10_both_0 hl 1 rfl rfl ?_
  obtain ⟨y1, hy1, hf⟩ := kx_bind hf
  refine x_callSi 4 C dX10_both_1 X hl kl_X10_105 (c_X0_isOne E.2.1 D T  v1  y1 hy1) [] rfl rfl rfl rfl rfl cb_2 rfl (fun H locs X => ?_)
  refine x_if_eq 33 7 C dX10_both_4 rfl rfl hf (fun hf => ?_) (fun hf => ?_)
  · refine x_iconst 34 C dX10_both_33 (0 : Int32) kv_iconst_0 rfl ?_
    exact w_X10_both_34 h C N x m_drawers_full m_drawers_kept m_drawers_partA m_drawers_partB m_drawers_keptA m_drawers_keptB m_drawers_keptFull m_tape_size m_tape_plain m_tape_omegas m_tape_end m_tape_place m_tape_plainTold m_tape_omegasTold m_tape_bytes m_modulus_square_a m_modulus_square_b m_factors_count m_factors_threes m_factors_unit m_factors_primeA m_factors_primeB m_factors_norms m_factors_euclid_count m_factors_euclid_last_a m_factors_euclid_last_b m_factors_euclid_lastOfFirst_a m_factors_euclid_lastOfFirst_b m_factors_euclid_lastOfSecond_a m_factors_euclid_lastOfSecond_b m_factors_euclid_next_a m_factors_euclid_next_b m_factors_euclid_nextOfFirst_a m_factors_euclid_nextOfFirst_b m_factors_euclid_nextOfSecond_a m_factors_euclid_nextOfSecond_b m_factors_euclid_q_a m_factors_euclid_q_b m_factors_euclid_quotientA m_factors_euclid_quotientB m_factors_left_a m_factors_left_b m_factors_found_a m_factors_found_b m_factors_product_a m_factors_product_b m_primes_count m_primes_primeA m_primes_primeB m_primes_found_a m_primes_found_b m_rings_foundA m_rings_foundB m_rings_all m_rings_mostOfOneRow m_letters_count m_letters_bytes m_marks R  m_euclid_count m_euclid_last_a m_euclid_last_b m_euclid_lastOfFirst_a m_euclid_lastOfFirst_b m_euclid_lastOfSecond_a m_euclid_lastOfSecond_b m_euclid_next_a m_euclid_next_b m_euclid_nextOfFirst_a m_euclid_nextOfFirst_b m_euclid_nextOfSecond_a m_euclid_nextOfSecond_b m_euclid_q_a m_euclid_q_b m_euclid_quotientA m_euclid_quotientB m_modulus_step m_modulus_width m_modulus_slant m_one_a m_one_b m_two_a m_two_b m_three_a m_three_b m_four_a m_four_b m_out_a m_out_b m_spare_a m_spare_b v1 v2 v3 v4 v5 (0 : Int32) _ _ _ X (lv_sub hl [0, 1, 2, 3, 4, 5] rfl) hf
  refine x_iload_n 8 C dX10_both_7 hl 2 rfl rfl ?_
  obtain ⟨y8, hy8, hf⟩ := kx_bind hf
  refine x_callSi 11 C dX10_both_8 X hl kl_X10_105 (c_X0_isOne E.2.1 D T  v2  y8 hy8) [] rfl rfl rfl rfl rfl cb_2 rfl (fun H locs X => ?_)
  refine x_if_eq 33 14 C dX10_both_11 rfl rfl hf (fun hf => ?_) (fun hf => ?_)
  · refine x_iconst 34 C dX10_both_33 (0 : Int32) kv_iconst_0 rfl ?_
    exact w_X10_both_34 h C N x m_drawers_full m_drawers_kept m_drawers_partA m_drawers_partB m_drawers_keptA m_drawers_keptB m_drawers_keptFull m_tape_size m_tape_plain m_tape_omegas m_tape_end m_tape_place m_tape_plainTold m_tape_omegasTold m_tape_bytes m_modulus_square_a m_modulus_square_b m_factors_count m_factors_threes m_factors_unit m_factors_primeA m_factors_primeB m_factors_norms m_factors_euclid_count m_factors_euclid_last_a m_factors_euclid_last_b m_factors_euclid_lastOfFirst_a m_factors_euclid_lastOfFirst_b m_factors_euclid_lastOfSecond_a m_factors_euclid_lastOfSecond_b m_factors_euclid_next_a m_factors_euclid_next_b m_factors_euclid_nextOfFirst_a m_factors_euclid_nextOfFirst_b m_factors_euclid_nextOfSecond_a m_factors_euclid_nextOfSecond_b m_factors_euclid_q_a m_factors_euclid_q_b m_factors_euclid_quotientA m_factors_euclid_quotientB m_factors_left_a m_factors_left_b m_factors_found_a m_factors_found_b m_factors_product_a m_factors_product_b m_primes_count m_primes_primeA m_primes_primeB m_primes_found_a m_primes_found_b m_rings_foundA m_rings_foundB m_rings_all m_rings_mostOfOneRow m_letters_count m_letters_bytes m_marks R  m_euclid_count m_euclid_last_a m_euclid_last_b m_euclid_lastOfFirst_a m_euclid_lastOfFirst_b m_euclid_lastOfSecond_a m_euclid_lastOfSecond_b m_euclid_next_a m_euclid_next_b m_euclid_nextOfFirst_a m_euclid_nextOfFirst_b m_euclid_nextOfSecond_a m_euclid_nextOfSecond_b m_euclid_q_a m_euclid_q_b m_euclid_quotientA m_euclid_quotientB m_modulus_step m_modulus_width m_modulus_slant m_one_a m_one_b m_two_a m_two_b m_three_a m_three_b m_four_a m_four_b m_out_a m_out_b m_spare_a m_spare_b v1 v2 v3 v4 v5 (0 : Int32) _ _ _ X (lv_sub hl [0, 1, 2, 3, 4, 5] rfl) hf
  refine x_iload_n 15 C dX10_both_14 hl 3 rfl rfl ?_
  obtain ⟨y15, hy15, hf⟩ := kx_bind hf
  refine x_callSi 18 C dX10_both_15 X hl kl_X10_105 (c_X0_isOne E.2.1 D T  v3  y15 hy15) [] rfl rfl rfl rfl rfl cb_2 rfl (fun H locs X => ?_)
  refine x_if_eq 33 21 C dX10_both_18 rfl rfl hf (fun hf => ?_) (fun hf => ?_)
  · refine x_iconst 34 C dX10_both_33 (0 : Int32) kv_iconst_0 rfl ?_
    exact w_X10_both_34 h C N x m_drawers_full m_drawers_kept m_drawers_partA m_drawers_partB m_drawers_keptA m_drawers_keptB m_drawers_keptFull m_tape_size m_tape_plain m_tape_omegas m_tape_end m_tape_place m_tape_plainTold m_tape_omegasTold m_tape_bytes m_modulus_square_a m_modulus_square_b m_factors_count m_factors_threes m_factors_unit m_factors_primeA m_factors_primeB m_factors_norms m_factors_euclid_count m_factors_euclid_last_a m_factors_euclid_last_b m_factors_euclid_lastOfFirst_a m_factors_euclid_lastOfFirst_b m_factors_euclid_lastOfSecond_a m_factors_euclid_lastOfSecond_b m_factors_euclid_next_a m_factors_euclid_next_b m_factors_euclid_nextOfFirst_a m_factors_euclid_nextOfFirst_b m_factors_euclid_nextOfSecond_a m_factors_euclid_nextOfSecond_b m_factors_euclid_q_a m_factors_euclid_q_b m_factors_euclid_quotientA m_factors_euclid_quotientB m_factors_left_a m_factors_left_b m_factors_found_a m_factors_found_b m_factors_product_a m_factors_product_b m_primes_count m_primes_primeA m_primes_primeB m_primes_found_a m_primes_found_b m_rings_foundA m_rings_foundB m_rings_all m_rings_mostOfOneRow m_letters_count m_letters_bytes m_marks R  m_euclid_count m_euclid_last_a m_euclid_last_b m_euclid_lastOfFirst_a m_euclid_lastOfFirst_b m_euclid_lastOfSecond_a m_euclid_lastOfSecond_b m_euclid_next_a m_euclid_next_b m_euclid_nextOfFirst_a m_euclid_nextOfFirst_b m_euclid_nextOfSecond_a m_euclid_nextOfSecond_b m_euclid_q_a m_euclid_q_b m_euclid_quotientA m_euclid_quotientB m_modulus_step m_modulus_width m_modulus_slant m_one_a m_one_b m_two_a m_two_b m_three_a m_three_b m_four_a m_four_b m_out_a m_out_b m_spare_a m_spare_b v1 v2 v3 v4 v5 (0 : Int32) _ _ _ X (lv_sub hl [0, 1, 2, 3, 4, 5] rfl) hf
  refine x_iload 23 C dX10_both_21 hl 4 rfl rfl ?_
  obtain ⟨y23, hy23, hf⟩ := kx_bind hf
  refine x_callSi 26 C dX10_both_23 X hl kl_X10_105 (c_X0_isOne E.2.1 D T  v4  y23 hy23) [] rfl rfl rfl rfl rfl cb_2 rfl (fun H locs X => ?_)
  refine x_if_eq 33 29 C dX10_both_26 rfl rfl hf (fun hf => ?_) (fun hf => ?_)
  · refine x_iconst 34 C dX10_both_33 (0 : Int32) kv_iconst_0 rfl ?_
    exact w_X10_both_34 h C N x m_drawers_full m_drawers_kept m_drawers_partA m_drawers_partB m_drawers_keptA m_drawers_keptB m_drawers_keptFull m_tape_size m_tape_plain m_tape_omegas m_tape_end m_tape_place m_tape_plainTold m_tape_omegasTold m_tape_bytes m_modulus_square_a m_modulus_square_b m_factors_count m_factors_threes m_factors_unit m_factors_primeA m_factors_primeB m_factors_norms m_factors_euclid_count m_factors_euclid_last_a m_factors_euclid_last_b m_factors_euclid_lastOfFirst_a m_factors_euclid_lastOfFirst_b m_factors_euclid_lastOfSecond_a m_factors_euclid_lastOfSecond_b m_factors_euclid_next_a m_factors_euclid_next_b m_factors_euclid_nextOfFirst_a m_factors_euclid_nextOfFirst_b m_factors_euclid_nextOfSecond_a m_factors_euclid_nextOfSecond_b m_factors_euclid_q_a m_factors_euclid_q_b m_factors_euclid_quotientA m_factors_euclid_quotientB m_factors_left_a m_factors_left_b m_factors_found_a m_factors_found_b m_factors_product_a m_factors_product_b m_primes_count m_primes_primeA m_primes_primeB m_primes_found_a m_primes_found_b m_rings_foundA m_rings_foundB m_rings_all m_rings_mostOfOneRow m_letters_count m_letters_bytes m_marks R  m_euclid_count m_euclid_last_a m_euclid_last_b m_euclid_lastOfFirst_a m_euclid_lastOfFirst_b m_euclid_lastOfSecond_a m_euclid_lastOfSecond_b m_euclid_next_a m_euclid_next_b m_euclid_nextOfFirst_a m_euclid_nextOfFirst_b m_euclid_nextOfSecond_a m_euclid_nextOfSecond_b m_euclid_q_a m_euclid_q_b m_euclid_quotientA m_euclid_quotientB m_modulus_step m_modulus_width m_modulus_slant m_one_a m_one_b m_two_a m_two_b m_three_a m_three_b m_four_a m_four_b m_out_a m_out_b m_spare_a m_spare_b v1 v2 v3 v4 v5 (0 : Int32) _ _ _ X (lv_sub hl [0, 1, 2, 3, 4, 5] rfl) hf
  refine x_iconst 30 C dX10_both_29 (1 : Int32) kv_iconst_1 rfl ?_
  refine x_goto 34 C dX10_both_30 rfl ?_
  exact w_X10_both_34 h C N x m_drawers_full m_drawers_kept m_drawers_partA m_drawers_partB m_drawers_keptA m_drawers_keptB m_drawers_keptFull m_tape_size m_tape_plain m_tape_omegas m_tape_end m_tape_place m_tape_plainTold m_tape_omegasTold m_tape_bytes m_modulus_square_a m_modulus_square_b m_factors_count m_factors_threes m_factors_unit m_factors_primeA m_factors_primeB m_factors_norms m_factors_euclid_count m_factors_euclid_last_a m_factors_euclid_last_b m_factors_euclid_lastOfFirst_a m_factors_euclid_lastOfFirst_b m_factors_euclid_lastOfSecond_a m_factors_euclid_lastOfSecond_b m_factors_euclid_next_a m_factors_euclid_next_b m_factors_euclid_nextOfFirst_a m_factors_euclid_nextOfFirst_b m_factors_euclid_nextOfSecond_a m_factors_euclid_nextOfSecond_b m_factors_euclid_q_a m_factors_euclid_q_b m_factors_euclid_quotientA m_factors_euclid_quotientB m_factors_left_a m_factors_left_b m_factors_found_a m_factors_found_b m_factors_product_a m_factors_product_b m_primes_count m_primes_primeA m_primes_primeB m_primes_found_a m_primes_found_b m_rings_foundA m_rings_foundB m_rings_all m_rings_mostOfOneRow m_letters_count m_letters_bytes m_marks R  m_euclid_count m_euclid_last_a m_euclid_last_b m_euclid_lastOfFirst_a m_euclid_lastOfFirst_b m_euclid_lastOfSecond_a m_euclid_lastOfSecond_b m_euclid_next_a m_euclid_next_b m_euclid_nextOfFirst_a m_euclid_nextOfFirst_b m_euclid_nextOfSecond_a m_euclid_nextOfSecond_b m_euclid_q_a m_euclid_q_b m_euclid_quotientA m_euclid_quotientB m_modulus_step m_modulus_width m_modulus_slant m_one_a m_one_b m_two_a m_two_b m_three_a m_three_b m_four_a m_four_b m_out_a m_out_b m_spare_a m_spare_b v1 v2 v3 v4 v5 (1 : Int32) _ _ _ X (lv_sub hl [0, 1, 2, 3, 4, 5] rfl) hf
set_option maxHeartbeats 4000000 in
set_option maxRecDepth 100000 in
theorem c_X11_both (l : Launch) (D : va_G) (T : KT) (h : Nat → Nat) (N : Nat) (v1 v2 v3 v4 v5 : Int32) (m_taped m_states : Int32) (m_ra m_rb : Int64) (m_threes m_primes m_ones m_unit : Int32) (m_allParts m_allNorms m_allClasses : Int64) (m_odd : Int32) (m_boxWide m_boxHigh m_boxStep : Int64) (m_partingMany : Int32) (m_qa m_qb m_la m_lb m_sa m_sb m_ta m_tb : Int64) (m_listed m_tells m_wanted m_found : Int32) (m_bits : Int64) (m_power2 m_rings m_ringA m_ringB m_seedNow : Int32) (m_tape m_has m_keptHas m_first m_second m_keptFirst m_keptSecond m_pa m_pb m_pNorm m_cubed m_isOpen m_signs m_often m_la0 m_lb0 : Nat → Int32) (x : Int32 × Int64 × Int64 × Int64 × Int64 × Int64 × Int32 × Int64 × Int64 × Int64 × Int64 × Int64 × Int64 × Int64 × Int64) (hf : f_X11_both N v1 v2 v3 v4 v5 m_ra m_rb m_boxWide m_boxHigh m_boxStep m_partingMany m_qa m_qb m_la m_lb m_sa m_sb m_ta m_tb m_has m_first m_second = some x) : kx_MI l yX11_both cX11_both 14 (some .int) 6 174 D T [.ref (h 0), .int v1, .int v2, .int v3, .int v4, .int v5] (wM T h m_taped m_states m_ra m_rb m_threes m_primes m_ones m_unit m_allParts m_allNorms m_allClasses m_odd m_boxWide m_boxHigh m_boxStep m_partingMany m_qa m_qb m_la m_lb m_sa m_sb m_ta m_tb m_listed m_tells m_wanted m_found m_bits m_power2 m_rings m_ringA m_ringB m_seedNow m_tape m_has m_keptHas m_first m_second m_keptFirst m_keptSecond m_pa m_pb m_pNorm m_cubed m_isOpen m_signs m_often m_la0 m_lb0) (wM T h m_taped m_states x.2.1 x.2.2.1 m_threes m_primes m_ones m_unit m_allParts m_allNorms m_allClasses m_odd x.2.2.2.1 x.2.2.2.2.1 x.2.2.2.2.2.1 x.2.2.2.2.2.2.1 x.2.2.2.2.2.2.2.1 x.2.2.2.2.2.2.2.2.1 x.2.2.2.2.2.2.2.2.2.1 x.2.2.2.2.2.2.2.2.2.2.1 x.2.2.2.2.2.2.2.2.2.2.2.1 x.2.2.2.2.2.2.2.2.2.2.2.2.1 x.2.2.2.2.2.2.2.2.2.2.2.2.2.1 x.2.2.2.2.2.2.2.2.2.2.2.2.2.2 m_listed m_tells m_wanted m_found m_bits m_power2 m_rings m_ringA m_ringB m_seedNow m_tape m_has m_keptHas m_first m_second m_keptFirst m_keptSecond m_pa m_pb m_pNorm m_cubed m_isOpen m_signs m_often m_la0 m_lb0) x.1 := by
  refine kx_ofMI RX11 rfl (plainFor_of_name (x := yX11_both) kpn_X11) rfl ?_
  intro E A H ls _ C X R hl
  have hl : lv_has ls 14 [(0, .ref (h 0)), (1, .int v1), (2, .int v2), (3, .int v3), (4, .int v4), (5, .int v5)] := hl
  rw [f_X11_both] at hf
  refine x_iload_n 1 C dX11_both_0 hl 1 rfl rfl ?_
  refine x_iload_n 2 C dX11_both_1 hl 2 rfl rfl ?_
  refine x_iload 4 C dX11_both_2 hl 5 rfl rfl ?_
  obtain ⟨y4, hy4, hf⟩ := kx_bind hf
  refine x_callSi 7 C dX11_both_4 X hl kl_X11_265 (c_X11_areDrawers E.2.1 D T  v1 v2 v5  y4 hy4) [] rfl rfl rfl rfl rfl cb_7 rfl (fun H locs X => ?_)
  refine x_if_eq 21 10 C dX11_both_7 rfl rfl hf (fun hf => ?_) (fun hf => ?_)
  · refine x_iconst 22 C dX11_both_21 (-1 : Int32) kv_iconst_m1 rfl ?_
    obtain rfl := Option.some.inj hf
    exact R _ _ _ _ X dX11_both_22
  refine x_iload_n 11 C dX11_both_10 hl 3 rfl rfl ?_
  refine x_iload 13 C dX11_both_11 hl 4 rfl rfl ?_
  refine x_iload 15 C dX11_both_13 hl 5 rfl rfl ?_
  obtain ⟨y15, hy15, hf⟩ := kx_bind hf
  refine x_callSi 18 C dX11_both_15 X hl kl_X11_265 (c_X11_areDrawers E.2.1 D T  v3 v4 v5  y15 hy15) [] rfl rfl rfl rfl rfl cb_7 rfl (fun H locs X => ?_)
  refine x_if_ne 23 21 C dX11_both_18 rfl rfl hf (fun hf => ?_) (fun hf => ?_)
  · refine x_aload_n 24 C dX11_both_23 hl 0 rfl rfl ?_
    refine x_iload_n 25 C dX11_both_24 hl 1 rfl rfl ?_
    refine x_iload_n 26 C dX11_both_25 hl 2 rfl rfl ?_
    obtain ⟨y26, hy26, hf⟩ := kx_bind hf
    refine x_callVi0 29 C dX11_both_26 X hl kl_X11_269 (c_X11_hasBoth E.2.1 D T h v1 v2 m_taped m_states m_ra m_rb m_threes m_primes m_ones m_unit m_allParts m_allNorms m_allClasses m_odd m_boxWide m_boxHigh m_boxStep m_partingMany m_qa m_qb m_la m_lb m_sa m_sb m_ta m_tb m_listed m_tells m_wanted m_found m_bits m_power2 m_rings m_ringA m_ringB m_seedNow m_tape m_has m_keptHas m_first m_second m_keptFirst m_keptSecond m_pa m_pb m_pNorm m_cubed m_isOpen m_signs m_often m_la0 m_lb0 y26 hy26) rfl rfl [] rfl rfl rfl rfl rfl rfl (fun H locs X => ?_)
    refine x_if_eq 42 32 C dX11_both_29 rfl rfl hf (fun hf => ?_) (fun hf => ?_)
    · refine x_bipush 44 C dX11_both_42 (-2 : Int32) kv_bipush_m2 rfl ?_
      obtain rfl := Option.some.inj hf
      exact R _ _ _ _ X dX11_both_44
    refine x_aload_n 33 C dX11_both_32 hl 0 rfl rfl ?_
    refine x_iload_n 34 C dX11_both_33 hl 3 rfl rfl ?_
    refine x_iload 36 C dX11_both_34 hl 4 rfl rfl ?_
    obtain ⟨y36, hy36, hf⟩ := kx_bind hf
    refine x_callVi0 39 C dX11_both_36 X hl kl_X11_269 (c_X11_hasBoth E.2.1 D T h v3 v4 m_taped m_states m_ra m_rb m_threes m_primes m_ones m_unit m_allParts m_allNorms m_allClasses m_odd m_boxWide m_boxHigh m_boxStep m_partingMany m_qa m_qb m_la m_lb m_sa m_sb m_ta m_tb m_listed m_tells m_wanted m_found m_bits m_power2 m_rings m_ringA m_ringB m_seedNow m_tape m_has m_keptHas m_first m_second m_keptFirst m_keptSecond m_pa m_pb m_pNorm m_cubed m_isOpen m_signs m_often m_la0 m_lb0 y36 hy36) rfl rfl [] rfl rfl rfl rfl rfl rfl (fun H locs X => ?_)
    refine x_if_ne 45 42 C dX11_both_39 rfl rfl hf (fun hf => ?_) (fun hf => ?_)
    · refine x_aload_n 46 C dX11_both_45 hl 0 rfl rfl ?_
      refine x_iload_n 47 C dX11_both_46 hl 2 rfl rfl ?_
      obtain ⟨y47, hy47, hf⟩ := kx_bind hf
      refine x_callVi0 50 C dX11_both_47 X hl kl_X11_178 (c_X11_isNothing E.2.1 D T h v2 m_taped m_states m_ra m_rb m_threes m_primes m_ones m_unit m_allParts m_allNorms m_allClasses m_odd m_boxWide m_boxHigh m_boxStep m_partingMany m_qa m_qb m_la m_lb m_sa m_sb m_ta m_tb m_listed m_tells m_wanted m_found m_bits m_power2 m_rings m_ringA m_ringB m_seedNow m_tape m_has m_keptHas m_first m_second m_keptFirst m_keptSecond m_pa m_pb m_pNorm m_cubed m_isOpen m_signs m_often m_la0 m_lb0 y47 hy47) rfl rfl [] rfl rfl rfl rfl rfl rfl (fun H locs X => ?_)
      refine x_if_ne 99 53 C dX11_both_50 rfl rfl hf (fun hf => ?_) (fun hf => ?_)
      · refine x_bipush 101 C dX11_both_99 (-3 : Int32) kv_bipush_m3 rfl ?_
        obtain rfl := Option.some.inj hf
        exact R _ _ _ _ X dX11_both_101
      refine x_aload_n 54 C dX11_both_53 hl 0 rfl rfl ?_
      refine x_iload 56 C dX11_both_54 hl 4 rfl rfl ?_
      obtain ⟨y56, hy56, hf⟩ := kx_bind hf
      refine x_callVi0 59 C dX11_both_56 X hl kl_X11_178 (c_X11_isNothing E.2.1 D T h v4 m_taped m_states m_ra m_rb m_threes m_primes m_ones m_unit m_allParts m_allNorms m_allClasses m_odd m_boxWide m_boxHigh m_boxStep m_partingMany m_qa m_qb m_la m_lb m_sa m_sb m_ta m_tb m_listed m_tells m_wanted m_found m_bits m_power2 m_rings m_ringA m_ringB m_seedNow m_tape m_has m_keptHas m_first m_second m_keptFirst m_keptSecond m_pa m_pb m_pNorm m_cubed m_isOpen m_signs m_often m_la0 m_lb0 y56 hy56) rfl rfl [] rfl rfl rfl rfl rfl rfl (fun H locs X => ?_)
      refine x_if_ne 99 62 C dX11_both_59 rfl rfl hf (fun hf => ?_) (fun hf => ?_)
      · refine x_bipush 101 C dX11_both_99 (-3 : Int32) kv_bipush_m3 rfl ?_
        obtain rfl := Option.some.inj hf
        exact R _ _ _ _ X dX11_both_101
      refine x_aload_n 63 C dX11_both_62 hl 0 rfl rfl ?_
      refine x_aload_n 64 C dX11_both_63 hl 0 rfl rfl ?_
      refine x_get 67 C dX11_both_64 X kf_X11_20 0 rfl rfl rfl ?_
      refine x_iload_n 68 C dX11_both_67 hl 2 rfl rfl ?_
      refine x_iald 69 C dX11_both_68 X 4 rfl hf rfl (fun hf => ?_)
      refine x_i2l 70 C dX11_both_69 rfl ?_
      refine x_aload_n 71 C dX11_both_70 hl 0 rfl rfl ?_
      refine x_get 74 C dX11_both_71 X kf_X11_24 0 rfl rfl rfl ?_
      refine x_iload_n 75 C dX11_both_74 hl 2 rfl rfl ?_
      refine x_iald 76 C dX11_both_75 X 5 rfl hf rfl (fun hf => ?_)
      refine x_i2l 77 C dX11_both_76 rfl ?_
      refine x_aload_n 78 C dX11_both_77 hl 0 rfl rfl ?_
      refine x_get 81 C dX11_both_78 X kf_X11_20 0 rfl rfl rfl ?_
      refine x_iload 83 C dX11_both_81 hl 4 rfl rfl ?_
      refine x_iald 84 C dX11_both_83 X 4 rfl hf rfl (fun hf => ?_)
      refine x_i2l 85 C dX11_both_84 rfl ?_
      refine x_aload_n 86 C dX11_both_85 hl 0 rfl rfl ?_
      refine x_get 89 C dX11_both_86 X kf_X11_24 0 rfl rfl rfl ?_
      refine x_iload 91 C dX11_both_89 hl 4 rfl rfl ?_
      refine x_iald 92 C dX11_both_91 X 5 rfl hf rfl (fun hf => ?_)
      refine x_i2l 93 C dX11_both_92 rfl ?_
      obtain ⟨y93, hy93, hf⟩ := kx_bind hf
      refine x_callVi0 96 C dX11_both_93 X hl kl_X11_195 (c_X11_arePrimeTo E.2.1 D T h N ((m_first (v2).toNatClampNeg)).toInt64 ((m_second (v2).toNatClampNeg)).toInt64 ((m_first (v4).toNatClampNeg)).toInt64 ((m_second (v4).toNatClampNeg)).toInt64 m_taped m_states m_ra m_rb m_threes m_primes m_ones m_unit m_allParts m_allNorms m_allClasses m_odd m_boxWide m_boxHigh m_boxStep m_partingMany m_qa m_qb m_la m_lb m_sa m_sb m_ta m_tb m_listed m_tells m_wanted m_found m_bits m_power2 m_rings m_ringA m_ringB m_seedNow m_tape m_has m_keptHas m_first m_second m_keptFirst m_keptSecond m_pa m_pb m_pNorm m_cubed m_isOpen m_signs m_often m_la0 m_lb0 y93 hy93) rfl rfl [] rfl rfl rfl rfl rfl rfl (fun H locs X => ?_)
      refine x_if_ne 102 99 C dX11_both_96 rfl rfl hf (fun hf => ?_) (fun hf => ?_)
      · refine x_aload_n 103 C dX11_both_102 hl 0 rfl rfl ?_
        refine x_aload_n 104 C dX11_both_103 hl 0 rfl rfl ?_
        refine x_get 107 C dX11_both_104 X kf_X11_20 0 rfl rfl rfl ?_
        refine x_iload_n 108 C dX11_both_107 hl 2 rfl rfl ?_
        refine x_iald 109 C dX11_both_108 X 4 rfl hf rfl (fun hf => ?_)
        refine x_i2l 110 C dX11_both_109 rfl ?_
        refine x_aload_n 111 C dX11_both_110 hl 0 rfl rfl ?_
        refine x_get 114 C dX11_both_111 X kf_X11_24 0 rfl rfl rfl ?_
        refine x_iload_n 115 C dX11_both_114 hl 2 rfl rfl ?_
        refine x_iald 116 C dX11_both_115 X 5 rfl hf rfl (fun hf => ?_)
        refine x_i2l 117 C dX11_both_116 rfl ?_
        refine x_aload_n 118 C dX11_both_117 hl 0 rfl rfl ?_
        refine x_get 121 C dX11_both_118 X kf_X11_20 0 rfl rfl rfl ?_
        refine x_iload 123 C dX11_both_121 hl 4 rfl rfl ?_
        refine x_iald 124 C dX11_both_123 X 4 rfl hf rfl (fun hf => ?_)
        refine x_i2l 125 C dX11_both_124 rfl ?_
        refine x_aload_n 126 C dX11_both_125 hl 0 rfl rfl ?_
        refine x_get 129 C dX11_both_126 X kf_X11_24 0 rfl rfl rfl ?_
        refine x_iload 131 C dX11_both_129 hl 4 rfl rfl ?_
        refine x_iald 132 C dX11_both_131 X 5 rfl hf rfl (fun hf => ?_)
        refine x_i2l 133 C dX11_both_132 rfl ?_
        obtain ⟨y133, hy133, hf⟩ := kx_bind hf
        refine x_callVv0 136 C dX11_both_133 X hl kl_X11_121 (c_X11_times E.2.1 D T h ((m_first (v2).toNatClampNeg)).toInt64 ((m_second (v2).toNatClampNeg)).toInt64 ((m_first (v4).toNatClampNeg)).toInt64 ((m_second (v4).toNatClampNeg)).toInt64 m_taped m_states y93.2.1 y93.2.2 m_threes m_primes m_ones m_unit m_allParts m_allNorms m_allClasses m_odd m_boxWide m_boxHigh m_boxStep m_partingMany m_qa m_qb m_la m_lb m_sa m_sb m_ta m_tb m_listed m_tells m_wanted m_found m_bits m_power2 m_rings m_ringA m_ringB m_seedNow m_tape m_has m_keptHas m_first m_second m_keptFirst m_keptSecond m_pa m_pb m_pNorm m_cubed m_isOpen m_signs m_often m_la0 m_lb0 y133 hy133) rfl rfl [] rfl rfl rfl rfl rfl rfl (fun H locs X => ?_)
        refine x_aload_n 137 C dX11_both_136 hl 0 rfl rfl ?_
        refine x_get 140 C dX11_both_137 X kf_X11_105 0 rfl rfl rfl ?_
        refine x_lstore 142 C dX11_both_140 [(6, .long y133.1), (0, .ref (h 0)), (1, .int v1), (2, .int v2), (3, .int v3), (4, .int v4), (5, .int v5)] hl rfl rfl rfl (fun ls hl => ?_)
        refine x_aload_n 143 C dX11_both_142 hl 1 rfl rfl ?_
        refine x_get 146 C dX11_both_143 X kf_X11_109 0 rfl rfl rfl ?_
        refine x_lstore 148 C dX11_both_146 [(8, .long y133.2), (6, .long y133.1), (0, .ref (h 0)), (1, .int v1), (2, .int v2), (3, .int v3), (4, .int v4), (5, .int v5)] hl rfl rfl rfl (fun ls hl => ?_)
        refine x_lload 150 C dX11_both_148 hl 1 rfl rfl ?_
        refine x_lload 152 C dX11_both_150 hl 0 rfl rfl ?_
        obtain ⟨y152, hy152, hf⟩ := kx_bind hf
        refine x_callSi 155 C dX11_both_152 X hl kl_X11_89 (c_X11_isNear E.2.1 D T  y133.1 y133.2  y152 hy152) [] rfl rfl rfl rfl rfl cb_7 rfl (fun H locs X => ?_)
        refine x_if_ne 161 158 C dX11_both_155 rfl rfl hf (fun hf => ?_) (fun hf => ?_)
        · refine x_aload_n 162 C dX11_both_161 hl 2 rfl rfl ?_
          refine x_aload_n 163 C dX11_both_162 hl 2 rfl rfl ?_
          refine x_get 166 C dX11_both_163 X kf_X11_20 0 rfl rfl rfl ?_
          refine x_iload 168 C dX11_both_166 hl 6 rfl rfl ?_
          refine x_iald 169 C dX11_both_168 X 4 rfl hf rfl (fun hf => ?_)
          refine x_i2l 170 C dX11_both_169 rfl ?_
          refine x_aload_n 171 C dX11_both_170 hl 2 rfl rfl ?_
          refine x_get 174 C dX11_both_171 X kf_X11_24 0 rfl rfl rfl ?_
          refine x_iload 176 C dX11_both_174 hl 6 rfl rfl ?_
          refine x_iald 177 C dX11_both_176 X 5 rfl hf rfl (fun hf => ?_)
          refine x_i2l 178 C dX11_both_177 rfl ?_
          obtain ⟨y178, hy178, hf⟩ := kx_bind hf
          refine x_callVv0 181 C dX11_both_178 X hl kl_X11_273 (c_X11_laysBox E.2.1 D T h N ((m_first (v4).toNatClampNeg)).toInt64 ((m_second (v4).toNatClampNeg)).toInt64 m_taped m_states y133.1 y133.2 m_threes m_primes m_ones m_unit m_allParts m_allNorms m_allClasses m_odd m_boxWide m_boxHigh m_boxStep m_partingMany m_qa m_qb m_la m_lb m_sa m_sb m_ta m_tb m_listed m_tells m_wanted m_found m_bits m_power2 m_rings m_ringA m_ringB m_seedNow m_tape m_has m_keptHas m_first m_second m_keptFirst m_keptSecond m_pa m_pb m_pNorm m_cubed m_isOpen m_signs m_often m_la0 m_lb0 y178 hy178) rfl rfl [] rfl rfl rfl rfl rfl rfl (fun H locs X => ?_)
          refine x_aload_n 182 C dX11_both_181 hl 2 rfl rfl ?_
          refine x_aload_n 183 C dX11_both_182 hl 2 rfl rfl ?_
          refine x_get 186 C dX11_both_183 X kf_X11_20 0 rfl rfl rfl ?_
          refine x_iload_n 187 C dX11_both_186 hl 4 rfl rfl ?_
          refine x_iald 188 C dX11_both_187 X 4 rfl hf rfl (fun hf => ?_)
          refine x_i2l 189 C dX11_both_188 rfl ?_
          refine x_aload_n 190 C dX11_both_189 hl 2 rfl rfl ?_
          refine x_get 193 C dX11_both_190 X kf_X11_24 0 rfl rfl rfl ?_
          refine x_iload_n 194 C dX11_both_193 hl 4 rfl rfl ?_
          refine x_iald 195 C dX11_both_194 X 5 rfl hf rfl (fun hf => ?_)
          refine x_i2l 196 C dX11_both_195 rfl ?_
          refine x_aload_n 197 C dX11_both_196 hl 2 rfl rfl ?_
          refine x_get 200 C dX11_both_197 X kf_X11_20 0 rfl rfl rfl ?_
          refine x_iload 202 C dX11_both_200 hl 6 rfl rfl ?_
          refine x_iald 203 C dX11_both_202 X 4 rfl hf rfl (fun hf => ?_)
          refine x_i2l 204 C dX11_both_203 rfl ?_
          refine x_aload_n 205 C dX11_both_204 hl 2 rfl rfl ?_
          refine x_get 208 C dX11_both_205 X kf_X11_24 0 rfl rfl rfl ?_
          refine x_iload 210 C dX11_both_208 hl 6 rfl rfl ?_
          refine x_iald 211 C dX11_both_210 X 5 rfl hf rfl (fun hf => ?_)
          refine x_i2l 212 C dX11_both_211 rfl ?_
          obtain ⟨y212, hy212, hf⟩ := kx_bind hf
          refine x_callVv0 215 C dX11_both_212 X hl kl_X11_315 (c_X11_inverts E.2.1 D T h N ((m_first (v2).toNatClampNeg)).toInt64 ((m_second (v2).toNatClampNeg)).toInt64 ((m_first (v4).toNatClampNeg)).toInt64 ((m_second (v4).toNatClampNeg)).toInt64 m_taped m_states y133.1 y133.2 m_threes m_primes m_ones m_unit m_allParts m_allNorms m_allClasses m_odd y178.1 y178.2.1 y178.2.2 m_partingMany m_qa m_qb m_la m_lb m_sa m_sb m_ta m_tb m_listed m_tells m_wanted m_found m_bits m_power2 m_rings m_ringA m_ringB m_seedNow m_tape m_has m_keptHas m_first m_second m_keptFirst m_keptSecond m_pa m_pb m_pNorm m_cubed m_isOpen m_signs m_often m_la0 m_lb0 y212 hy212) rfl rfl [] rfl rfl rfl rfl rfl rfl (fun H locs X => ?_)
          refine x_aload_n 216 C dX11_both_215 hl 2 rfl rfl ?_
          refine x_aload_n 217 C dX11_both_216 hl 2 rfl rfl ?_
          refine x_get 220 C dX11_both_217 X kf_X11_105 0 rfl rfl rfl ?_
          refine x_aload_n 221 C dX11_both_220 hl 2 rfl rfl ?_
          refine x_get 224 C dX11_both_221 X kf_X11_109 0 rfl rfl rfl ?_
          obtain ⟨y224, hy224, hf⟩ := kx_bind hf
          refine x_callVv0 227 C dX11_both_224 X hl kl_X11_259 (c_X11_boxes E.2.1 D T h y212.1 y212.2.1 m_taped m_states y212.1 y212.2.1 m_threes m_primes m_ones m_unit m_allParts m_allNorms m_allClasses m_odd y178.1 y178.2.1 y178.2.2 y212.2.2.1 y212.2.2.2.1 y212.2.2.2.2.1 y212.2.2.2.2.2.1 y212.2.2.2.2.2.2.1 y212.2.2.2.2.2.2.2.1 y212.2.2.2.2.2.2.2.2.1 y212.2.2.2.2.2.2.2.2.2.1 y212.2.2.2.2.2.2.2.2.2.2 m_listed m_tells m_wanted m_found m_bits m_power2 m_rings m_ringA m_ringB m_seedNow m_tape m_has m_keptHas m_first m_second m_keptFirst m_keptSecond m_pa m_pb m_pNorm m_cubed m_isOpen m_signs m_often m_la0 m_lb0 y224 hy224) rfl rfl [] rfl rfl rfl rfl rfl rfl (fun H locs X => ?_)
          refine x_aload_n 228 C dX11_both_227 hl 2 rfl rfl ?_
          refine x_aload_n 229 C dX11_both_228 hl 2 rfl rfl ?_
          refine x_get 232 C dX11_both_229 X kf_X11_105 0 rfl rfl rfl ?_
          refine x_aload_n 233 C dX11_both_232 hl 2 rfl rfl ?_
          refine x_get 236 C dX11_both_233 X kf_X11_109 0 rfl rfl rfl ?_
          refine x_aload_n 237 C dX11_both_236 hl 2 rfl rfl ?_
          refine x_get 240 C dX11_both_237 X kf_X11_20 0 rfl rfl rfl ?_
          refine x_iload_n 241 C dX11_both_240 hl 5 rfl rfl ?_
          refine x_iald 242 C dX11_both_241 X 4 rfl hf rfl (fun hf => ?_)
          refine x_aload_n 243 C dX11_both_242 hl 2 rfl rfl ?_
          refine x_get 246 C dX11_both_243 X kf_X11_20 0 rfl rfl rfl ?_
          refine x_iload_n 247 C dX11_both_246 hl 3 rfl rfl ?_
          refine x_iald 248 C dX11_both_247 X 4 rfl hf rfl (fun hf => ?_)
          refine x_isub 249 C dX11_both_248 rfl ?_
          refine x_i2l 250 C dX11_both_249 rfl ?_
          refine x_aload_n 251 C dX11_both_250 hl 2 rfl rfl ?_
          refine x_get 254 C dX11_both_251 X kf_X11_24 0 rfl rfl rfl ?_
          refine x_iload_n 255 C dX11_both_254 hl 5 rfl rfl ?_
          refine x_iald 256 C dX11_both_255 X 5 rfl hf rfl (fun hf => ?_)
          refine x_aload_n 257 C dX11_both_256 hl 2 rfl rfl ?_
          refine x_get 260 C dX11_both_257 X kf_X11_24 0 rfl rfl rfl ?_
          refine x_iload_n 261 C dX11_both_260 hl 3 rfl rfl ?_
          refine x_iald 262 C dX11_both_261 X 5 rfl hf rfl (fun hf => ?_)
          refine x_isub 263 C dX11_both_262 rfl ?_
          refine x_i2l 264 C dX11_both_263 rfl ?_
          obtain ⟨y264, hy264, hf⟩ := kx_bind hf
          refine x_callVv0 267 C dX11_both_264 X hl kl_X11_262 (c_X11_timesIn E.2.1 D T h y224.1 y224.2 (((m_first (v3).toNatClampNeg) - (m_first (v1).toNatClampNeg))).toInt64 (((m_second (v3).toNatClampNeg) - (m_second (v1).toNatClampNeg))).toInt64 m_taped m_states y224.1 y224.2 m_threes m_primes m_ones m_unit m_allParts m_allNorms m_allClasses m_odd y178.1 y178.2.1 y178.2.2 y212.2.2.1 y212.2.2.2.1 y212.2.2.2.2.1 y212.2.2.2.2.2.1 y212.2.2.2.2.2.2.1 y212.2.2.2.2.2.2.2.1 y212.2.2.2.2.2.2.2.2.1 y212.2.2.2.2.2.2.2.2.2.1 y212.2.2.2.2.2.2.2.2.2.2 m_listed m_tells m_wanted m_found m_bits m_power2 m_rings m_ringA m_ringB m_seedNow m_tape m_has m_keptHas m_first m_second m_keptFirst m_keptSecond m_pa m_pb m_pNorm m_cubed m_isOpen m_signs m_often m_la0 m_lb0 y264 hy264) rfl rfl [] rfl rfl rfl rfl rfl rfl (fun H locs X => ?_)
          refine x_aload_n 268 C dX11_both_267 hl 2 rfl rfl ?_
          refine x_aload_n 269 C dX11_both_268 hl 2 rfl rfl ?_
          refine x_get 272 C dX11_both_269 X kf_X11_105 0 rfl rfl rfl ?_
          refine x_aload_n 273 C dX11_both_272 hl 2 rfl rfl ?_
          refine x_get 276 C dX11_both_273 X kf_X11_109 0 rfl rfl rfl ?_
          refine x_aload_n 277 C dX11_both_276 hl 2 rfl rfl ?_
          refine x_get 280 C dX11_both_277 X kf_X11_20 0 rfl rfl rfl ?_
          refine x_iload_n 281 C dX11_both_280 hl 4 rfl rfl ?_
          refine x_iald 282 C dX11_both_281 X 4 rfl hf rfl (fun hf => ?_)
          refine x_i2l 283 C dX11_both_282 rfl ?_
          refine x_aload_n 284 C dX11_both_283 hl 2 rfl rfl ?_
          refine x_get 287 C dX11_both_284 X kf_X11_24 0 rfl rfl rfl ?_
          refine x_iload_n 288 C dX11_both_287 hl 4 rfl rfl ?_
          refine x_iald 289 C dX11_both_288 X 5 rfl hf rfl (fun hf => ?_)
          refine x_i2l 290 C dX11_both_289 rfl ?_
          obtain ⟨y290, hy290, hf⟩ := kx_bind hf
          refine x_callVv0 293 C dX11_both_290 X hl kl_X11_121 (c_X11_times E.2.1 D T h y264.1 y264.2 ((m_first (v2).toNatClampNeg)).toInt64 ((m_second (v2).toNatClampNeg)).toInt64 m_taped m_states y264.1 y264.2 m_threes m_primes m_ones m_unit m_allParts m_allNorms m_allClasses m_odd y178.1 y178.2.1 y178.2.2 y212.2.2.1 y212.2.2.2.1 y212.2.2.2.2.1 y212.2.2.2.2.2.1 y212.2.2.2.2.2.2.1 y212.2.2.2.2.2.2.2.1 y212.2.2.2.2.2.2.2.2.1 y212.2.2.2.2.2.2.2.2.2.1 y212.2.2.2.2.2.2.2.2.2.2 m_listed m_tells m_wanted m_found m_bits m_power2 m_rings m_ringA m_ringB m_seedNow m_tape m_has m_keptHas m_first m_second m_keptFirst m_keptSecond m_pa m_pb m_pNorm m_cubed m_isOpen m_signs m_often m_la0 m_lb0 y290 hy290) rfl rfl [] rfl rfl rfl rfl rfl rfl (fun H locs X => ?_)
          refine x_aload_n 294 C dX11_both_293 hl 2 rfl rfl ?_
          refine x_get 297 C dX11_both_294 X kf_X11_105 0 rfl rfl rfl ?_
          refine x_aload_n 298 C dX11_both_297 hl 2 rfl rfl ?_
          refine x_get 301 C dX11_both_298 X kf_X11_20 0 rfl rfl rfl ?_
          refine x_iload_n 302 C dX11_both_301 hl 3 rfl rfl ?_
          refine x_iald 303 C dX11_both_302 X 4 rfl hf rfl (fun hf => ?_)
          refine x_i2l 304 C dX11_both_303 rfl ?_
          refine x_ladd 305 C dX11_both_304 rfl ?_
          refine x_lstore 307 C dX11_both_305 [(10, .long (y290.1 + ((m_first (v1).toNatClampNeg)).toInt64)), (8, .long y133.2), (6, .long y133.1), (0, .ref (h 0)), (1, .int v1), (2, .int v2), (3, .int v3), (4, .int v4), (5, .int v5)] hl rfl rfl rfl (fun ls hl => ?_)
          refine x_aload_n 308 C dX11_both_307 hl 3 rfl rfl ?_
          refine x_get 311 C dX11_both_308 X kf_X11_109 0 rfl rfl rfl ?_
          refine x_aload_n 312 C dX11_both_311 hl 3 rfl rfl ?_
          refine x_get 315 C dX11_both_312 X kf_X11_24 0 rfl rfl rfl ?_
          refine x_iload_n 316 C dX11_both_315 hl 4 rfl rfl ?_
          refine x_iald 317 C dX11_both_316 X 5 rfl hf rfl (fun hf => ?_)
          refine x_i2l 318 C dX11_both_317 rfl ?_
          refine x_ladd 319 C dX11_both_318 rfl ?_
          refine x_lstore 321 C dX11_both_319 [(12, .long (y290.2 + ((m_second (v1).toNatClampNeg)).toInt64)), (10, .long (y290.1 + ((m_first (v1).toNatClampNeg)).toInt64)), (8, .long y133.2), (6, .long y133.1), (0, .ref (h 0)), (1, .int v1), (2, .int v2), (3, .int v3), (4, .int v4), (5, .int v5)] hl rfl rfl rfl (fun ls hl => ?_)
          refine x_aload_n 322 C dX11_both_321 hl 4 rfl rfl ?_
          refine x_lload 324 C dX11_both_322 hl 3 rfl rfl ?_
          refine x_lload 326 C dX11_both_324 hl 2 rfl rfl ?_
          obtain ⟨y326, hy326, hf⟩ := kx_bind hf
          refine x_callVv0 329 C dX11_both_326 X hl kl_X11_273 (c_X11_laysBox E.2.1 D T h N y133.1 y133.2 m_taped m_states y290.1 y290.2 m_threes m_primes m_ones m_unit m_allParts m_allNorms m_allClasses m_odd y178.1 y178.2.1 y178.2.2 y212.2.2.1 y212.2.2.2.1 y212.2.2.2.2.1 y212.2.2.2.2.2.1 y212.2.2.2.2.2.2.1 y212.2.2.2.2.2.2.2.1 y212.2.2.2.2.2.2.2.2.1 y212.2.2.2.2.2.2.2.2.2.1 y212.2.2.2.2.2.2.2.2.2.2 m_listed m_tells m_wanted m_found m_bits m_power2 m_rings m_ringA m_ringB m_seedNow m_tape m_has m_keptHas m_first m_second m_keptFirst m_keptSecond m_pa m_pb m_pNorm m_cubed m_isOpen m_signs m_often m_la0 m_lb0 y326 hy326) rfl rfl [] rfl rfl rfl rfl rfl rfl (fun H locs X => ?_)
          refine x_aload_n 330 C dX11_both_329 hl 4 rfl rfl ?_
          refine x_lload 332 C dX11_both_330 hl 1 rfl rfl ?_
          refine x_lload 334 C dX11_both_332 hl 0 rfl rfl ?_
          obtain ⟨y334, hy334, hf⟩ := kx_bind hf
          refine x_callVv0 337 C dX11_both_334 X hl kl_X11_259 (c_X11_boxes E.2.1 D T h (y290.1 + ((m_first (v1).toNatClampNeg)).toInt64) (y290.2 + ((m_second (v1).toNatClampNeg)).toInt64) m_taped m_states y290.1 y290.2 m_threes m_primes m_ones m_unit m_allParts m_allNorms m_allClasses m_odd y326.1 y326.2.1 y326.2.2 y212.2.2.1 y212.2.2.2.1 y212.2.2.2.2.1 y212.2.2.2.2.2.1 y212.2.2.2.2.2.2.1 y212.2.2.2.2.2.2.2.1 y212.2.2.2.2.2.2.2.2.1 y212.2.2.2.2.2.2.2.2.2.1 y212.2.2.2.2.2.2.2.2.2.2 m_listed m_tells m_wanted m_found m_bits m_power2 m_rings m_ringA m_ringB m_seedNow m_tape m_has m_keptHas m_first m_second m_keptFirst m_keptSecond m_pa m_pb m_pNorm m_cubed m_isOpen m_signs m_often m_la0 m_lb0 y334 hy334) rfl rfl [] rfl rfl rfl rfl rfl rfl (fun H locs X => ?_)
          refine x_aload_n 338 C dX11_both_337 hl 4 rfl rfl ?_
          refine x_iload 340 C dX11_both_338 hl 9 rfl rfl ?_
          obtain ⟨y340, hy340, hf⟩ := kx_bind hf
          refine x_callVi0 343 C dX11_both_340 X hl kl_X11_276 (c_X11_part E.2.1 D T h v5 m_taped m_states y334.1 y334.2 m_threes m_primes m_ones m_unit m_allParts m_allNorms m_allClasses m_odd y326.1 y326.2.1 y326.2.2 y212.2.2.1 y212.2.2.2.1 y212.2.2.2.2.1 y212.2.2.2.2.2.1 y212.2.2.2.2.2.2.1 y212.2.2.2.2.2.2.2.1 y212.2.2.2.2.2.2.2.2.1 y212.2.2.2.2.2.2.2.2.2.1 y212.2.2.2.2.2.2.2.2.2.2 m_listed m_tells m_wanted m_found m_bits m_power2 m_rings m_ringA m_ringB m_seedNow m_tape m_has m_keptHas m_first m_second m_keptFirst m_keptSecond m_pa m_pb m_pNorm m_cubed m_isOpen m_signs m_often m_la0 m_lb0 y340 hy340) rfl rfl [] rfl rfl rfl rfl rfl rfl (fun H locs X => ?_)
          obtain rfl := Option.some.inj hf
          exact R _ _ _ _ X dX11_both_343
        refine x_bipush 160 C dX11_both_158 (-4 : Int32) kv_bipush_m4 rfl ?_
        obtain rfl := Option.some.inj hf
        exact R _ _ _ _ X dX11_both_160
      refine x_bipush 101 C dX11_both_99 (-3 : Int32) kv_bipush_m3 rfl ?_
      obtain rfl := Option.some.inj hf
      exact R _ _ _ _ X dX11_both_101
    refine x_bipush 44 C dX11_both_42 (-2 : Int32) kv_bipush_m2 rfl ?_
    obtain rfl := Option.some.inj hf
    exact R _ _ _ _ X dX11_both_44
  refine x_iconst 22 C dX11_both_21 (-1 : Int32) kv_iconst_m1 rfl ?_
  obtain rfl := Option.some.inj hf
  exact R _ _ _ _ X dX11_both_22
