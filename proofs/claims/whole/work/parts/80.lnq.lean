/-! ===== length ===== -/
theorem l140 {N : Nat} (k77 : Int64 → Int32 → Int64 → Int32 → Int32 → Option (Int32 × Int64 × Int32)) (v2 : Int64) (v4 v8 : Int32) {cg cq x y : Nat} {pg pq m : Int} (hx : pg - m = x) (hy : pq - m = y) (hx' : x < 64) (hy' : y < 64) (g2 : cg < 16777216) (q2 : cq < 16777216) : f_X11_length_140 N k77 v2 v4 (lI cg) (iI pg) v8 (iI m) (lI cq) (iI pq) = (f_X11_fits N (lI ((cg * 2 ^ x + cq * 2 ^ y : Nat) : Int)) (iI m) 0).bind fun y167 => k77 v2 v4 y167.1 (y167.2 - (1 : Int32)) (v8 + (1 : Int32)) := by
  have e1 : iI pg - iI m = nI x := by rw [iI_sub, hx, iI_nI]
  have e2 : iI pq - iI m = nI y := by rw [iI_sub, hy, iI_nI]
  unfold f_X11_length_140
  rw [e1, e2, l_shl (by omega) hx', l_shl (by omega) hy', lI_add]
  rfl
theorem st_if {α : Type} (F : Int32 → α) {r : Nat} (hr : r < 2 ^ 62) : (if lI (r : Int) = (0 : Int64) then F 0 else F 1) = F (bI (decide (r ≠ 0))) := by
  by_cases c : r = 0
  · rw [if_pos (by rw [c]; rfl), c]; rfl
  · have n : ¬ lI (r : Int) = (0 : Int64) := by rw [lI_0 ⟨by omega, by omega⟩]; omega
    rw [if_neg n, decide_eq_true c]; rfl
/-- one step of the root: both sides come to the same float -/
theorem len_step {N : Nat} (hN : 1048576 ≤ N) {x g : UInt32} {cx cg : Nat} {px pg : Int} (hx : FP.Core.val32 x = .fin false cx px) (x1 : 8388608 ≤ cx) (x2 : cx < 16777216) (hpx : -23 ≤ px ∧ px ≤ 6) (hg : FP.Core.val32 g = .fin false cg pg) (g1 : 8388608 ≤ cg) (g2 : cg < 16777216) (p1 : -24 ≤ pg) (p2 : pg ≤ px + 1) : ∃ (cq c : Nat) (pq q : Int), FP.Core.val32 (FP.fdiv x g) = .fin false cq pq ∧ FP.Core.val32 (FP.fadd g (FP.fdiv x g)) = .fin false c q ∧ 8388608 ≤ c ∧ c < 16777216 ∧ -23 ≤ q ∧ q ≤ px + 2 ∧ ∀ (k77 : Int64 → Int32 → Int64 → Int32 → Int32 → Option (Int32 × Int64 × Int32)) (v8 : Int32), f_X11_length_119 N k77 (lI cx) (iI px) (lI cg) (iI pg) v8 (lI ((cx * 2 ^ 38 / cg : Nat) : Int)) (iI (px - pg - 38)) (bI (decide (cx * 2 ^ 38 % cg ≠ 0))) = k77 (lI cx) (iI px) (lI c) (iI (q - 1)) (v8 + (1 : Int32)) := by
  obtain ⟨cq, pq, r1, r2, r3, r4, r5, r6⟩ := f_quot hN hx hg x1 x2 g1 g2 ⟨by omega, by omega⟩
  by_cases cc : pq ≤ pg
  · obtain ⟨d, hd⟩ : ∃ d : Nat, pg - pq = d := ⟨(pg - pq).toNat, by omega⟩
    obtain ⟨c, q, s1, s2, s3, s4, s5, s6⟩ := sum_fit hN (m := pq) (d := d) g1 g2 r3 r4 (by omega) ⟨by omega, by omega⟩
    have fs := f_sum (m := pq) (x := d) (y := 0) hg r2 (by omega) hd (by omega)
    rw [Nat.pow_zero, Nat.mul_one, s2 false] at fs
    refine ⟨cq, c, pq, q, r2, fs, s3, s4, by omega, by omega, fun k77 v8 => ?_⟩
    unfold f_X11_length_119
    rw [r1, Option.bind_some]
    simp only []
    rw [if_pos ((iI_le ⟨by omega, by omega⟩ ⟨by omega, by omega⟩).mpr cc), l140 (x := d) (y := 0) k77 _ _ _ hd (by omega) (by omega) (by omega) g2 r4, Nat.pow_zero, Nat.mul_one, s1, Option.bind_some]
    simp only []
    rw [show (1 : Int32) = iI 1 from rfl, iI_sub]
  · obtain ⟨d, hd⟩ : ∃ d : Nat, pq - pg = d := ⟨(pq - pg).toNat, by omega⟩
    obtain ⟨c, q, s1, s2, s3, s4, s5, s6⟩ := sum_fit hN (m := pg) (d := d) r3 r4 g1 g2 (by omega) ⟨by omega, by omega⟩
    have fs := f_sum (m := pg) (x := 0) (y := d) hg r2 (by omega) (by omega) hd
    rw [Nat.pow_zero, Nat.mul_one, Nat.add_comm, s2 false] at fs
    refine ⟨cq, c, pq, q, r2, fs, s3, s4, by omega, by omega, fun k77 v8 => ?_⟩
    unfold f_X11_length_119
    rw [r1, Option.bind_some]
    simp only []
    rw [if_neg (fun z => cc ((iI_le ⟨by omega, by omega⟩ ⟨by omega, by omega⟩).mp z)), l140 (x := 0) (y := d) k77 _ _ _ (by omega) hd (by omega) (by omega) g2 r4, Nat.pow_zero, Nat.mul_one, Nat.add_comm cg, s1, Option.bind_some]
    simp only []
    rw [show (1 : Int32) = iI 1 from rfl, iI_sub]
theorem n6 : ∀ i, i < 6 → ¬ (6 : Int32) ≤ nI i := by decide +kernel
theorem len_loop {N : Nat} (hN : 1048576 ≤ N) {x : UInt32} {cx : Nat} {px : Int} (hx : FP.Core.val32 x = .fin false cx px) (x1 : 8388608 ≤ cx) (x2 : cx < 16777216) (hpx : -23 ≤ px ∧ px ≤ 6) (ma mb : Int64) : ∀ (j i : Nat), i + j = 6 → ∀ (g : UInt32) (cg : Nat) (pg : Int), FP.Core.val32 g = .fin false cg pg → 8388608 ≤ cg → cg < 16777216 → -24 ≤ pg → pg ≤ px + 1 → ∃ r : Int32, (∀ f : Nat, j < f → f_X10_length_51 N f x g (nI i) ma mb = some (r, ma, mb)) ∧ (∀ f : Nat, j < f → ∃ y, f_X11_length_77 N f (lI cx) (iI px) (lI cg) (iI pg) (nI i) = some (r, y)) := by
  intro j
  induction j with
  | zero =>
    intro i hi g cg pg hg g1 g2 p1 p2
    obtain rfl : i = 6 := by omega
    obtain ⟨k, k1, k2, k3, k4⟩ := log_ex2 (n := cg * 1000) (by omega) (by omega)
    have kb : k ≤ 10 := pw_le (a := 8388608) (b := 16777216) (by omega) (by decide)
    obtain ⟨c, q, r1, r2, r3, r4, r5, r6, r7⟩ := fit_round hN (A := cg * 1000) (B := 1) (k := k) (e := pg) (by omega) k1 k2 (by rw [Nat.div_one]; exact k3) (by rw [Nat.div_one]; exact k4) ⟨by omega, by omega⟩
    have st : bI (decide (cg * 1000 % 1 ≠ 0)) = 0 := by rw [Nat.mod_one]; rfl
    rw [Nat.div_one, st] at r1
    have ft := f_times (K := 1000) (j := 14) hg v_1000
    rw [r2 false] at ft
    have le6 : (6 : Int32) ≤ nI 6 := by decide
    have m1 : lI (cg : Int) * (1000 : Int64) = lI ((cg * 1000 : Nat) : Int) := by rw [show (1000 : Int64) = lI 1000 from rfl, lI_mul]; rfl
    have ct := (s_cut (c := c) (q := q) r3 r4 ⟨by omega, by omega⟩).1
    refine ⟨FP.Core.toI (.fin false c q), fun f hf => ?_, fun f hf => ?_⟩
    · obtain ⟨f, rfl⟩ : ∃ f', f = f' + 1 := ⟨f - 1, by omega⟩
      rw [f_X10_length_51, if_pos le6, if_pos (fl_ok ft), f2i_val, ft]
    · obtain ⟨f, rfl⟩ : ∃ f', f = f' + 1 := ⟨f - 1, by omega⟩
      rw [f_X11_length_77, if_pos le6, m1, r1, Option.bind_some]
      simp only []
      rw [ct, Option.bind_some]
      exact ⟨_, rfl⟩
  | succ j ih =>
    intro i hi g cg pg hg g1 g2 p1 p2
    obtain ⟨cq, c, pq, q, s1, s2, s3, s4, s5, s6, s7⟩ := len_step hN hx x1 x2 hpx hg g1 g2 p1 p2
    have hh := f_half s2 s3 s4 ⟨by omega, by omega⟩
    obtain ⟨r, rC, rR⟩ := ih (i + 1) (by omega) _ c (q - 1) hh s3 s4 (by omega) (by omega)
    have v0 : ¬ lI (cg : Int) = 0 := by rw [lI_0 ⟨by omega, by omega⟩]; omega
    have sh : lI (cx : Int) <<< (((38 : Int32)).toInt64 &&& 63) = lI ((cx * 2 ^ 38 : Nat) : Int) := l_shl (k := 38) (by omega) (by decide)
    have ml := Nat.mod_lt (cx * 2 ^ 38) (show 0 < cg by omega)
    have dv : lI ((cx * 2 ^ 38 : Nat) : Int) / lI (cg : Int) = lI ((cx * 2 ^ 38 / cg : Nat) : Int) := l_ndiv (by omega) (by omega)
    have md : lI ((cx * 2 ^ 38 : Nat) : Int) - lI ((cx * 2 ^ 38 / cg : Nat) : Int) * lI (cg : Int) = lI ((cx * 2 ^ 38 % cg : Nat) : Int) := by
      rw [← dv]; exact l_nmod (by omega) (by omega)
    have pe : (iI px - iI pg) - (38 : Int32) = iI (px - pg - 38) := by rw [show (38 : Int32) = iI 38 from rfl, iI_sub, iI_sub]
    refine ⟨r, fun f hf => ?_, fun f hf => ?_⟩
    · obtain ⟨f, rfl⟩ : ∃ f', f = f' + 1 := ⟨f - 1, by omega⟩
      rw [f_X10_length_51, if_neg (n6 i (by omega)), if_neg (f_gt0 hg (by omega)), if_pos (fl_ok s1), if_pos (fl_ok s2), if_pos (fl_ok hh), nI_1]
      exact rC f (by omega)
    · obtain ⟨f, rfl⟩ : ∃ f', f = f' + 1 := ⟨f - 1, by omega⟩
      rw [f_X11_length_77, if_neg (n6 i (by omega)), if_neg v0, if_neg v0, sh, dv, md, pe, st_if (fun z => f_X11_length_119 N (f_X11_length_77 N f) (lI cx) (iI px) (lI cg) (iI pg) (nI i) (lI ((cx * 2 ^ 38 / cg : Nat) : Int)) (iI (px - pg - 38)) z) (by omega), s7, nI_1]
      exact rR f (by omega)
theorem l2f_val {n : Nat} (hn : n < 2 ^ 63) : FP.Core.val32 (FP.l2f (lI (n : Int))) = FP.Core.roundRatio FP.Core.b32 false n 1 0 := by
  have e : FP.Core.val32 (FP.l2f (lI (n : Int))) = FP.Core.round FP.Core.b32 (FP.Core.ofInt (lI (n : Int)).toInt) := FP.Core.val32_l2f _
  rw [e, lI_toInt ⟨by omega, by omega⟩]
  show FP.Core.roundRatio FP.Core.b32 (decide ((n : Int) < 0)) (n : Int).natAbs 1 0 = _
  rw [decide_eq_false (by omega), Int.natAbs_natCast]
/-- a norm as a float -/
theorem norm_fit {N : Nat} (hN : 1048576 ≤ N) {n : Nat} (h0 : 0 < n) (hn : n < 536870912) : ∃ (c : Nat) (q : Int), f_X11_fits N (lI (n : Int)) 0 0 = some (lI c, iI q) ∧ FP.Core.val32 (FP.l2f (lI (n : Int))) = .fin false c q ∧ 8388608 ≤ c ∧ c < 16777216 ∧ -23 ≤ q ∧ q ≤ 6 := by
  rw [l2f_val (by omega)]
  by_cases c : n < 16777216
  · obtain ⟨c, q, r1, r2, r3, r4, r5, r6⟩ := fit_small hN (n := n) (e := 0) h0 c ⟨by decide, by decide⟩
    exact ⟨c, q, r1, r2 false, r3, r4, by omega, by omega⟩
  · obtain ⟨k, k1, k2, k3, k4⟩ := log_ex2 (n := n) (by omega) (by omega)
    have kb : k ≤ 5 := pw_le (a := 8388608) (b := 16777216) (by omega) (by decide)
    obtain ⟨c, q, r1, r2, r3, r4, r5, r6, r7⟩ := fit_round hN (A := n) (B := 1) (k := k) (e := 0) (by omega) k1 k2 (by rw [Nat.div_one]; exact k3) (by rw [Nat.div_one]; exact k4) ⟨by omega, by omega⟩
    have st : bI (decide (n % 1 ≠ 0)) = 0 := by rw [Nat.mod_one]; rfl
    rw [Nat.div_one, st] at r1
    exact ⟨c, q, r1, r2 false, r3, r4, by omega, by omega⟩
theorem len_zero {N : Nat} (hN : 1048576 ≤ N) (ma mb : Int64) : (FP.fdiv (FP.l2f 0) (0x40000000 : UInt32)) &&& 0x7fffffff ≤ 0x7f800000 ∧ f_X10_length_51 N N (FP.l2f 0) (FP.fdiv (FP.l2f 0) (0x40000000 : UInt32)) 0 ma mb = some (0, ma, mb) := by
  have e : FP.fdiv (FP.l2f 0) (0x40000000 : UInt32) = 0 := by decide +kernel
  have e1 : (FP.fmul 0 (1148846080 : UInt32)) &&& 0x7fffffff ≤ 0x7f800000 := by decide +kernel
  have e2 : FP.f2i (FP.fmul 0 (1148846080 : UInt32)) = 0 := by decide +kernel
  have e3 : Op.cmpValue (FP.fcmp 0 (0 : UInt32)) CmpOp.l ≤ 0 := by decide +kernel
  have e4 : ¬ (6 : Int32) ≤ 0 := by decide
  obtain ⟨f, rfl⟩ : ∃ f', N = f' + 1 := ⟨N - 1, by omega⟩
  rw [e]
  exact ⟨by decide +kernel, by rw [f_X10_length_51, if_neg e4, if_pos e3, if_pos e1, e2]⟩
theorem q_length (N : Nat) (hN : 1048576 ≤ N) (v1 : Int32) (m_drawers_full m_drawers_kept : Int32) (m_drawers_partA m_drawers_partB m_drawers_keptA m_drawers_keptB m_drawers_keptFull : Nat → Int32) (m_tape_size : Int32) (m_tape_bytes : Nat → Int32) (m_primes_count : Int32) (m_primes_primeA m_primes_primeB : Nat → Int32) (m_one_a m_one_b : Int64) (m_taped m_states m_listed : Int32) (m_bits : Int64) (m_power2 : Int32) (m_tape m_has m_keptHas m_first m_second m_keptFirst m_keptSecond m_la0 m_lb0 : Nat → Int32) (hR : kR m_drawers_full m_drawers_kept m_drawers_partA m_drawers_partB m_drawers_keptA m_drawers_keptB m_drawers_keptFull m_tape_size m_tape_bytes m_primes_count m_primes_primeA m_primes_primeB m_taped m_tape m_has m_keptHas m_first m_second m_keptFirst m_keptSecond m_states m_la0 m_lb0 m_listed) : ∃ (y : Int32 × Int64 × Int64) (z : Int32 × Int64 × Int32), f_X10_length N v1 m_drawers_full m_drawers_partA m_drawers_partB m_one_a m_one_b = some y ∧ f_X11_length N v1 m_bits m_power2 m_has m_first m_second = some z ∧ y.1 = z.1 ∧ kR m_drawers_full m_drawers_kept m_drawers_partA m_drawers_partB m_drawers_keptA m_drawers_keptB m_drawers_keptFull m_tape_size m_tape_bytes m_primes_count m_primes_primeA m_primes_primeB m_taped m_tape m_has m_keptHas m_first m_second m_keptFirst m_keptSecond m_states m_la0 m_lb0 m_listed := by
  have hR0 := hR
  obtain ⟨⟨dr, hD⟩, hK, hT, hP⟩ := hR
  unfold f_X10_length f_X11_length
  rcases dr_cases v1 with h1 | ⟨i, hi, rfl⟩
  · simp only [(dr_out h1).1, (dr_out h1).2, Option.bind_some, z00, if_true]
    exact ⟨_, _, rfl, rfl, rfl, hR0⟩
  cases e1 : dr i with
  | none =>
    rw [(dr_in hi).1, Option.bind_some, if_neg j1, s_has0 hD hi e1, Option.bind_some, if_pos rfl]
    simp only [(dr_in hi).2, hD.hasN hi e1, Option.bind_some, z10, if_false, dr_cl hi, dr_n0 hi, dr_8 hi, or_self, if_true]
    exact ⟨_, _, rfl, rfl, rfl, hR0⟩
  | some p =>
    obtain ⟨c, d⟩ := p
    obtain ⟨hn, -, -, f1, g1⟩ := hD.num hi e1
    rw [(dr_in hi).1, Option.bind_some, if_neg j1, s_has1 hD hi e1, Option.bind_some, if_neg j1, s_load hD hi e1, Option.bind_some]
    simp only []
    rw [s_norm, Option.bind_some]
    simp only [(dr_in hi).2, hD.has1 hi e1, Option.bind_some, z10, if_false, dr_cl hi, dr_n0 hi, dr_8 hi, or_self, f1, g1, iI_l hn.b32.1, iI_l hn.b32.2, s_isNothing hD hi e1, s_normX]
    have nn := nrm_nn c d
    have nl := nrm_le (a := c) (b := d) (M := 9999) hn.1 hn.2.1 hn.2.2.1 hn.2.2.2
    by_cases c0 : c = 0 ∧ d = 0
    · have n0 := nrm_0.mpr c0
      have l0' : lI (nrm c d) = (0 : Int64) := by rw [n0]; rfl
      obtain ⟨z1, z2⟩ := len_zero hN (lI c) (lI d)
      rw [if_pos c0, if_neg j1, l0', if_pos z1, z2]
      exact ⟨_, _, rfl, rfl, rfl, hR0⟩
    · obtain ⟨n, en⟩ : ∃ n : Nat, nrm c d = n := ⟨(nrm c d).toNat, by omega⟩
      have n0 : 0 < n := by
        rcases Nat.eq_zero_or_pos n with z | z
        · exact absurd (nrm_0.mp (by rw [en, z]; rfl)) c0
        · exact z
      obtain ⟨cx, px, r1, r2, r3, r4, r5, r6⟩ := norm_fit hN n0 (by omega)
      have hh := f_half r2 r3 r4 ⟨by omega, by omega⟩
      obtain ⟨r, rC, rR⟩ := len_loop hN r2 r3 r4 ⟨r5, r6⟩ (lI c) (lI d) 6 0 (by decide) _ cx (px - 1) hh r3 r4 (by omega) (by omega)
      have rC' := rC N (by omega)
      obtain ⟨y, rR'⟩ := rR N (by omega)
      rw [nI_0] at rC' rR'
      rw [if_neg c0, if_pos rfl, en, if_pos (fl_ok hh), rC', r1, Option.bind_some]
      simp only []
      rw [show (1 : Int32) = iI 1 from rfl, iI_sub, rR']
      exact ⟨_, _, rfl, rfl, rfl, hR0⟩
