/-! ===== parting, partings ===== -/
theorem q_partings (N : Nat) (hN : 1048576 ≤ N) (v1 v2 : Int32) (m_drawers_full m_drawers_kept : Int32) (m_drawers_partA m_drawers_partB m_drawers_keptA m_drawers_keptB m_drawers_keptFull : Nat → Int32) (m_tape_size : Int32) (m_tape_bytes : Nat → Int32) (m_euclid_count : Int32) (m_euclid_last_a m_euclid_last_b m_euclid_lastOfFirst_a m_euclid_lastOfFirst_b m_euclid_lastOfSecond_a m_euclid_lastOfSecond_b m_euclid_next_a m_euclid_next_b m_euclid_nextOfFirst_a m_euclid_nextOfFirst_b m_euclid_nextOfSecond_a m_euclid_nextOfSecond_b m_euclid_q_a m_euclid_q_b : Int64) (m_euclid_quotientA m_euclid_quotientB : Nat → Int64) (m_primes_count : Int32) (m_primes_primeA m_primes_primeB : Nat → Int32) (m_one_a m_one_b m_two_a m_two_b : Int64) (m_taped m_states : Int32) (m_ra m_rb : Int64) (m_partingMany : Int32) (m_qa m_qb m_la m_lb m_sa m_sb m_ta m_tb : Int64) (m_listed : Int32) (m_tape m_has m_keptHas m_first m_second m_keptFirst m_keptSecond m_la0 m_lb0 : Nat → Int32) (hR : kR m_drawers_full m_drawers_kept m_drawers_partA m_drawers_partB m_drawers_keptA m_drawers_keptB m_drawers_keptFull m_tape_size m_tape_bytes m_primes_count m_primes_primeA m_primes_primeB m_taped m_tape m_has m_keptHas m_first m_second m_keptFirst m_keptSecond m_states m_la0 m_lb0 m_listed) : ∃ (y : Int32 × Int32 × Int64 × Int64 × Int64 × Int64 × Int64 × Int64 × Int64 × Int64 × Int64 × Int64 × Int64 × Int64 × Int64 × Int64 × (Nat → Int64) × (Nat → Int64) × Int64 × Int64 × Int64 × Int64) (z : Int32 × Int64 × Int64 × Int32 × Int64 × Int64 × Int64 × Int64 × Int64 × Int64 × Int64 × Int64), f_X10_partings N v1 v2 m_drawers_full m_drawers_partA m_drawers_partB m_euclid_count m_euclid_last_a m_euclid_last_b m_euclid_lastOfFirst_a m_euclid_lastOfFirst_b m_euclid_lastOfSecond_a m_euclid_lastOfSecond_b m_euclid_next_a m_euclid_next_b m_euclid_nextOfFirst_a m_euclid_nextOfFirst_b m_euclid_nextOfSecond_a m_euclid_nextOfSecond_b m_euclid_q_a m_euclid_q_b m_euclid_quotientA m_euclid_quotientB m_one_a m_one_b m_two_a m_two_b = some y ∧ f_X11_partings N v1 v2 m_ra m_rb m_partingMany m_qa m_qb m_la m_lb m_sa m_sb m_ta m_tb m_has m_first m_second = some z ∧ y.1 = z.1 ∧ kR m_drawers_full m_drawers_kept m_drawers_partA m_drawers_partB m_drawers_keptA m_drawers_keptB m_drawers_keptFull m_tape_size m_tape_bytes m_primes_count m_primes_primeA m_primes_primeB m_taped m_tape m_has m_keptHas m_first m_second m_keptFirst m_keptSecond m_states m_la0 m_lb0 m_listed := by
  have hR0 := hR
  obtain ⟨⟨dr, hD⟩, hK, hT, hP⟩ := hR
  rcases dr_two dr v1 v2 with h | ⟨i, j, hi, hj, rfl, rfl, h | ⟨a, b, c, d, e1, e2⟩⟩
  · simp only [f_X10_partings, s_two_out h, Option.bind_some]
    rw [if_neg (by decide)]
    unfold f_X11_partings
    rcases s_both_out h with h | ⟨h, h'⟩
    · simp only [h, Option.bind_some, z00, if_true]
      exact ⟨_, _, rfl, rfl, rfl, hR0⟩
    · simp only [h, h', Option.bind_some, z00, if_true, z10, if_false]
      exact ⟨_, _, rfl, rfl, rfl, hR0⟩
  · simp only [f_X10_partings, s_two_none hD hi hj h, Option.bind_some]
    rw [if_neg (by decide)]
    unfold f_X11_partings
    simp only [(dr_in hi).2, (dr_in hj).2, s_hasBoth hD hi hj, isome_and h, Option.bind_some, z00, if_true, z10, if_false, Bool.false_eq_true]
    exact ⟨_, _, rfl, rfl, rfl, hR0⟩
  · obtain ⟨hn1, -, -, f1, g1⟩ := hD.num hi e1
    obtain ⟨hn2, -, -, f2, g2⟩ := hD.num hj e2
    obtain ⟨n, hn, hz, hne, hC, hP', hG⟩ := s_euclid hN (x := (a, b)) (y := (c, d)) hn1.eb hn2.eb
    obtain ⟨qa', qb', QA', QB', eC, -⟩ := hC m_euclid_q_a m_euclid_q_b m_euclid_quotientA m_euclid_quotientB
    obtain ⟨ra', rb', qa'', qb'', eP, -⟩ := hP' (-1) m_ra m_rb m_qa m_qb
    unfold f_X10_partings f_X11_partings
    simp only [s_two hD hi hj e1 e2, Option.bind_some, z00, if_true, eC, ePart, (dr_in hi).2, (dr_in hj).2, s_hasBoth hD hi hj, e1, e2, z10, if_false, Option.isSome_some, Bool.and_self, dr_cl hi, dr_n0 hi, dr_8 hi, dr_cl hj, dr_n0 hj, dr_8 hj, or_self, f1, f2, g1, g2, iI_l hn1.b32.1, iI_l hn1.b32.2, iI_l hn2.b32.1, iI_l hn2.b32.2, eP]
    exact ⟨_, _, rfl, rfl, rfl, hR0⟩
theorem nI_ofm1 {v : Int32} (h1 : ¬ v < -1) (h2 : v ≠ -1) : ∃ j : Nat, j < 2 ^ 31 ∧ v = nI j := by
  apply nI_of
  intro z
  have z1 : (-1 : Int32) ≤ v := by
    rw [Int32.le_iff_toInt_le]
    rw [Int32.lt_iff_toInt_lt] at h1
    omega
  have z1 := Int32.le_iff_toInt_le.mp z1
  have z2 := Int32.lt_iff_toInt_lt.mp z
  apply h2
  apply Int32.toInt_inj.mp
  have e1 : (-1 : Int32).toInt = -1 := rfl
  have e0 : (0 : Int32).toInt = 0 := rfl
  rw [e1] at z1 ⊢; rw [e0] at z2; omega
theorem q_parting (N : Nat) (hN : 1048576 ≤ N) (v1 v2 v3 v4 : Int32) (m_drawers_full m_drawers_kept : Int32) (m_drawers_partA m_drawers_partB m_drawers_keptA m_drawers_keptB m_drawers_keptFull : Nat → Int32) (m_tape_size : Int32) (m_tape_bytes : Nat → Int32) (m_euclid_count : Int32) (m_euclid_last_a m_euclid_last_b m_euclid_lastOfFirst_a m_euclid_lastOfFirst_b m_euclid_lastOfSecond_a m_euclid_lastOfSecond_b m_euclid_next_a m_euclid_next_b m_euclid_nextOfFirst_a m_euclid_nextOfFirst_b m_euclid_nextOfSecond_a m_euclid_nextOfSecond_b m_euclid_q_a m_euclid_q_b : Int64) (m_euclid_quotientA m_euclid_quotientB : Nat → Int64) (m_primes_count : Int32) (m_primes_primeA m_primes_primeB : Nat → Int32) (m_one_a m_one_b m_two_a m_two_b m_out_a m_out_b : Int64) (m_taped m_states : Int32) (m_ra m_rb : Int64) (m_partingMany : Int32) (m_qa m_qb m_la m_lb m_sa m_sb m_ta m_tb : Int64) (m_listed : Int32) (m_tape m_has m_keptHas m_first m_second m_keptFirst m_keptSecond m_la0 m_lb0 : Nat → Int32) (hR : kR m_drawers_full m_drawers_kept m_drawers_partA m_drawers_partB m_drawers_keptA m_drawers_keptB m_drawers_keptFull m_tape_size m_tape_bytes m_primes_count m_primes_primeA m_primes_primeB m_taped m_tape m_has m_keptHas m_first m_second m_keptFirst m_keptSecond m_states m_la0 m_lb0 m_listed) : ∃ (y : Int32 × Int32 × Int64 × Int64 × Int64 × Int64 × Int64 × Int64 × Int64 × Int64 × Int64 × Int64 × Int64 × Int64 × Int64 × Int64 × (Nat → Int64) × (Nat → Int64) × Int64 × Int64 × Int64 × Int64 × Int64 × Int64) (z : Int32 × Int64 × Int64 × Int32 × Int64 × Int64 × Int64 × Int64 × Int64 × Int64 × Int64 × Int64), f_X10_parting N v1 v2 v3 v4 m_drawers_full m_drawers_partA m_drawers_partB m_euclid_count m_euclid_last_a m_euclid_last_b m_euclid_lastOfFirst_a m_euclid_lastOfFirst_b m_euclid_lastOfSecond_a m_euclid_lastOfSecond_b m_euclid_next_a m_euclid_next_b m_euclid_nextOfFirst_a m_euclid_nextOfFirst_b m_euclid_nextOfSecond_a m_euclid_nextOfSecond_b m_euclid_q_a m_euclid_q_b m_euclid_quotientA m_euclid_quotientB m_one_a m_one_b m_two_a m_two_b m_out_a m_out_b = some y ∧ f_X11_parting N v1 v2 v3 v4 m_ra m_rb m_partingMany m_qa m_qb m_la m_lb m_sa m_sb m_ta m_tb m_has m_first m_second = some z ∧ y.1 = z.1 ∧ kR m_drawers_full m_drawers_kept m_drawers_partA m_drawers_partB m_drawers_keptA m_drawers_keptB m_drawers_keptFull m_tape_size m_tape_bytes m_primes_count m_primes_primeA m_primes_primeB m_taped m_tape m_has m_keptHas m_first m_second m_keptFirst m_keptSecond m_states m_la0 m_lb0 m_listed := by
  have hR0 := hR
  obtain ⟨⟨dr, hD⟩, hK, hT, hP⟩ := hR
  obtain ⟨w, hw, rfl⟩ := iI_of v4
  have in5 : f_X11_in (iI w).toInt64 0 5 = some (if 0 ≤ w ∧ w ≤ 5 then 1 else 0) := s_in32 hw (l := 0) (h := 5) ⟨by decide, by decide⟩ ⟨by decide, by decide⟩
  have in1 : f_X11_in (iI w).toInt64 0 1 = some (if 0 ≤ w ∧ w ≤ 1 then 1 else 0) := s_in32 hw (l := 0) (h := 1) ⟨by decide, by decide⟩ ⟨by decide, by decide⟩
  have lt5 : ((5 : Int32) < iI w) = (5 < w) := propext (iI_lt (a := 5) ⟨by decide, by decide⟩ hw)
  have lt1 : ((1 : Int32) < iI w) = (1 < w) := propext (iI_lt (a := 1) ⟨by decide, by decide⟩ hw)
  have q1 : (iI w = 1) = (w = 1) := propext (iI_eq hw (b := 1) ⟨by decide, by decide⟩)
  have q2 : (iI w = 2) = (w = 2) := propext (iI_eq hw (b := 2) ⟨by decide, by decide⟩)
  have q3 : (iI w = 3) = (w = 3) := propext (iI_eq hw (b := 3) ⟨by decide, by decide⟩)
  have q4 : (iI w = 4) = (w = 4) := propext (iI_eq hw (b := 4) ⟨by decide, by decide⟩)
  have q0 : (iI w = 0) = (w = 0) := propext (iI_0 hw)
  have qlt : (iI w < 0) = (w < 0) := propext (iI_lt0 hw)
  have nm : ((-1 : Int32) < -1) = False := eq_false (by decide)
  have nm0 : ((-1 : Int32) < 0) = True := eq_true (by decide)
  unfold f_X10_parting f_X11_parting f_X10_parting_10 f_X11_parting_44 f_X10_parting_141 f_X10_part
  by_cases c : v3 = -1
  · subst c
    simp only [if_true, nm, if_false, lt5, qlt, in5, q0, q1, q2, q3, q4, nm0, Option.bind_some]
    by_cases cw : 0 ≤ w ∧ w ≤ 5
    · rw [if_neg (show ¬ w < 0 by omega), if_neg (show ¬ 5 < w by omega)]
      rcases dr_two dr v1 v2 with h | ⟨i, j, hi, hj, rfl, rfl, h | ⟨a, b, c, d, e1, e2⟩⟩
      · simp only [s_two_out h, Option.bind_some]
        rw [if_neg (by decide)]
        rcases s_both_out h with h | ⟨h, h'⟩
        · simp only [h, Option.bind_some, z00, if_true]
          exact ⟨_, _, rfl, rfl, rfl, hR0⟩
        · simp only [h, h', Option.bind_some, z00, if_true, z10, if_false]
          exact ⟨_, _, rfl, rfl, rfl, hR0⟩
      · simp only [s_two_none hD hi hj h, Option.bind_some]
        rw [if_neg (by decide)]
        simp only [(dr_in hi).2, (dr_in hj).2, s_hasBoth hD hi hj, isome_and h, Option.bind_some, z00, if_true, z10, if_false, Bool.false_eq_true]
        exact ⟨_, _, rfl, rfl, rfl, hR0⟩
      · obtain ⟨hn1, -, -, f1, g1⟩ := hD.num hi e1
        obtain ⟨hn2, -, -, f2, g2⟩ := hD.num hj e2
        obtain ⟨n, hn, hz, hne, hC, hP', hG⟩ := s_euclid hN (x := (a, b)) (y := (c, d)) hn1.eb hn2.eb
        obtain ⟨qa', qb', QA', QB', eC, -⟩ := hC m_euclid_q_a m_euclid_q_b m_euclid_quotientA m_euclid_quotientB
        obtain ⟨ra', rb', qa'', qb'', eP, -⟩ := hP' (-1) m_ra m_rb m_qa m_qb
        have hcnt : ((-1 : Int32) < nI n) = True := eq_true (by
          rw [iI_nI, im1, iI_lt ⟨by decide, by decide⟩ ⟨by omega, by omega⟩]; omega)
        have s2 : iI w - 2 = iI (w - 2) := by rw [i2, iI_sub]
        have s4 : iI w - 4 = iI (w - 4) := by rw [i4, iI_sub]
        have s20 : (iI (w - 2) = 0) = (w - 2 = 0) := propext (iI_0 ⟨by omega, by omega⟩)
        have s40 : (iI (w - 4) = 0) = (w - 4 = 0) := propext (iI_0 ⟨by omega, by omega⟩)
        simp only [s_two hD hi hj e1 e2, Option.bind_some, z00, if_true, eC, ePart, (dr_in hi).2, (dr_in hj).2, s_hasBoth hD hi hj, e1, e2, z10, if_false, Option.isSome_some, Bool.and_self, dr_cl hi, dr_n0 hi, dr_8 hi, dr_cl hj, dr_n0 hj, dr_8 hj, or_self, f1, f2, g1, g2, iI_l hn1.b32.1, iI_l hn1.b32.2, iI_l hn2.b32.1, iI_l hn2.b32.2, eP, cw, and_self, hcnt, s2, s4, s20, s40]
        have hw6 : w = 0 ∨ w = 1 ∨ w = 2 ∨ w = 3 ∨ w = 4 ∨ w = 5 := by omega
        rcases hw6 with rfl | rfl | rfl | rfl | rfl | rfl <;> exact ⟨_, _, rfl, rfl, rfl, hR0⟩
    · have cA : ∀ {P Q R : Option (Int32 × Int32 × Int64 × Int64 × Int64 × Int64 × Int64 × Int64 × Int64 × Int64 × Int64 × Int64 × Int64 × Int64 × Int64 × Int64 × (Nat → Int64) × (Nat → Int64) × Int64 × Int64 × Int64 × Int64 × Int64 × Int64)}, (if w < 0 then P else if 5 < w then P else R) = P := by
        intro P Q R
        by_cases c1 : w < 0
        · rw [if_pos c1]
        · rw [if_neg c1, if_pos (by omega)]
      rw [cA (Q := none)]
      rcases dr_two dr v1 v2 with h | ⟨i, j, hi, hj, rfl, rfl, h | ⟨a, b, c, d, e1, e2⟩⟩
      · rcases s_both_out h with h | ⟨h, h'⟩
        · simp only [h, Option.bind_some, z00, if_true]
          exact ⟨_, _, rfl, rfl, rfl, hR0⟩
        · simp only [h, h', Option.bind_some, z00, if_true, z10, if_false]
          exact ⟨_, _, rfl, rfl, rfl, hR0⟩
      · simp only [(dr_in hi).2, (dr_in hj).2, s_hasBoth hD hi hj, isome_and h, Option.bind_some, z00, if_true, z10, if_false, Bool.false_eq_true]
        exact ⟨_, _, rfl, rfl, rfl, hR0⟩
      · simp only [(dr_in hi).2, (dr_in hj).2, s_hasBoth hD hi hj, e1, e2, Option.bind_some, z10, if_false, Option.isSome_some, Bool.and_self, if_true, cw, z00]
        exact ⟨_, _, rfl, rfl, rfl, hR0⟩
  · simp only [c, if_false, lt1, qlt, in1, q0, q1, q2, q3, q4, Option.bind_some]
    by_cases cw : ¬ v3 < -1 ∧ (0 ≤ w ∧ w ≤ 1)
    · obtain ⟨cv, cw⟩ := cw
      rw [if_neg cv, if_neg (show ¬ w < 0 by omega), if_neg (show ¬ 1 < w by omega)]
      obtain ⟨k, hk, rfl⟩ := nI_ofm1 cv c
      rcases dr_two dr v1 v2 with h | ⟨i, j, hi, hj, rfl, rfl, h | ⟨a, b, c, d, e1, e2⟩⟩
      · simp only [s_two_out h, Option.bind_some]
        rw [if_neg (by decide)]
        rcases s_both_out h with h | ⟨h, h'⟩
        · simp only [h, Option.bind_some, z00, if_true]
          exact ⟨_, _, rfl, rfl, rfl, hR0⟩
        · simp only [h, h', Option.bind_some, z00, if_true, z10, if_false]
          exact ⟨_, _, rfl, rfl, rfl, hR0⟩
      · simp only [s_two_none hD hi hj h, Option.bind_some]
        rw [if_neg (by decide)]
        simp only [(dr_in hi).2, (dr_in hj).2, s_hasBoth hD hi hj, isome_and h, Option.bind_some, z00, if_true, z10, if_false, Bool.false_eq_true]
        exact ⟨_, _, rfl, rfl, rfl, hR0⟩
      · obtain ⟨hn1, -, -, f1, g1⟩ := hD.num hi e1
        obtain ⟨hn2, -, -, f2, g2⟩ := hD.num hj e2
        obtain ⟨n, hn, hz, hne, hC, hP', hG⟩ := s_euclid hN (x := (a, b)) (y := (c, d)) hn1.eb hn2.eb
        obtain ⟨qa', qb', QA', QB', eC, hQC⟩ := hC m_euclid_q_a m_euclid_q_b m_euclid_quotientA m_euclid_quotientB
        obtain ⟨ra', rb', qa'', qb'', eP, hQP⟩ := hP' (nI k) m_ra m_rb m_qa m_qb
        have n0 : (nI k < 0) = False := eq_false (nI_pos hk)
        simp only [s_two hD hi hj e1 e2, Option.bind_some, z00, if_true, eC, ePart, (dr_in hi).2, (dr_in hj).2, s_hasBoth hD hi hj, e1, e2, z10, if_false, Option.isSome_some, Bool.and_self, dr_cl hi, dr_n0 hi, dr_8 hi, dr_cl hj, dr_n0 hj, dr_8 hj, or_self, f1, f2, g1, g2, iI_l hn1.b32.1, iI_l hn1.b32.2, iI_l hn2.b32.1, iI_l hn2.b32.2, eP, cw, and_self, n0, cv]
        by_cases ck : k < n
        · obtain ⟨r1, r2⟩ := hQC k ck
          obtain ⟨r3, r4⟩ := hQP k ck rfl
          have lq : ∀ p q : Int64, f_X1_loadQuotient (nI k) (nI n) QA' QB' p q = some (lI (eQ (a, b) (c, d) k).1, lI (eQ (a, b) (c, d) k).2) := by
            intro p q
            unfold f_X1_loadQuotient
            rw [if_neg (nI_pos hk), if_neg (nI_ge ck (by omega)), if_neg (show ¬ (128 : Int32) ≤ nI k from nI_ge (b := 128) (by omega) (by decide)), if_neg (nI_in (show k < 128 by omega) (by decide)), if_neg (nI_in (show k < 128 by omega) (by decide)), nI_clamp (by omega), r1, r2, f_X5_set, Option.bind_some]
          rw [if_pos (nI_lt ck (by omega)), if_pos (nI_lt ck (by omega))]
          simp only [lq, Option.bind_some, r3, r4]
          have hw2 : w = 0 ∨ w = 1 := by omega
          rcases hw2 with rfl | rfl <;> exact ⟨_, _, rfl, rfl, rfl, hR0⟩
        · rw [if_neg (nI_nlt (by omega) (by omega)), if_neg (nI_nlt (by omega) (by omega))]
          exact ⟨_, _, rfl, rfl, rfl, hR0⟩
    · have cA : ∀ {P Q R : Option (Int32 × Int32 × Int64 × Int64 × Int64 × Int64 × Int64 × Int64 × Int64 × Int64 × Int64 × Int64 × Int64 × Int64 × Int64 × Int64 × (Nat → Int64) × (Nat → Int64) × Int64 × Int64 × Int64 × Int64 × Int64 × Int64)}, (if v3 < -1 then P else if w < 0 then P else if 1 < w then P else R) = P := by
        intro P Q R
        by_cases c0 : v3 < -1
        · rw [if_pos c0]
        · rw [if_neg c0]
          by_cases c1 : w < 0
          · rw [if_pos c1]
          · rw [if_neg c1, if_pos]
            by_cases c2 : 1 < w
            · exact c2
            · exact absurd ⟨c0, by omega, by omega⟩ cw
      rw [cA (Q := none)]
      rcases dr_two dr v1 v2 with h | ⟨i, j, hi, hj, rfl, rfl, h | ⟨a, b, c, d, e1, e2⟩⟩
      · rcases s_both_out h with h | ⟨h, h'⟩
        · simp only [h, Option.bind_some, z00, if_true]
          exact ⟨_, _, rfl, rfl, rfl, hR0⟩
        · simp only [h, h', Option.bind_some, z00, if_true, z10, if_false]
          exact ⟨_, _, rfl, rfl, rfl, hR0⟩
      · simp only [(dr_in hi).2, (dr_in hj).2, s_hasBoth hD hi hj, isome_and h, Option.bind_some, z00, if_true, z10, if_false, Bool.false_eq_true]
        exact ⟨_, _, rfl, rfl, rfl, hR0⟩
      · simp only [(dr_in hi).2, (dr_in hj).2, s_hasBoth hD hi hj, e1, e2, Option.bind_some, z10, if_false, Option.isSome_some, Bool.and_self, if_true]
        by_cases c0 : v3 < -1
        · rw [if_pos c0]; exact ⟨_, _, rfl, rfl, rfl, hR0⟩
        · have cw' : (0 ≤ w ∧ w ≤ 1) = False := eq_false (fun z => cw ⟨c0, z⟩)
          rw [if_neg c0]
          simp only [cw', if_false, z00, if_true]
          exact ⟨_, _, rfl, rfl, rfl, hR0⟩
