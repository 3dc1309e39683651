/-! ===== supplement, turned ===== -/
theorem q_supplement (N : Nat) (hN : 1048576 ≤ N) (v1 v2 : Int32) (m_drawers_full m_drawers_kept : Int32) (m_drawers_partA m_drawers_partB m_drawers_keptA m_drawers_keptB m_drawers_keptFull : Nat → Int32) (m_tape_size : Int32) (m_tape_bytes : Nat → Int32) (m_modulus_step m_modulus_width m_modulus_slant m_modulus_square_a m_modulus_square_b : Int64) (m_factors_count m_factors_threes m_factors_unit : Int32) (m_factors_primeA m_factors_primeB m_factors_norms : Nat → Int64) (m_factors_euclid_count : Int32) (m_factors_euclid_last_a m_factors_euclid_last_b m_factors_euclid_lastOfFirst_a m_factors_euclid_lastOfFirst_b m_factors_euclid_lastOfSecond_a m_factors_euclid_lastOfSecond_b m_factors_euclid_next_a m_factors_euclid_next_b m_factors_euclid_nextOfFirst_a m_factors_euclid_nextOfFirst_b m_factors_euclid_nextOfSecond_a m_factors_euclid_nextOfSecond_b m_factors_euclid_q_a m_factors_euclid_q_b : Int64) (m_factors_euclid_quotientA m_factors_euclid_quotientB : Nat → Int64) (m_factors_left_a m_factors_left_b m_factors_found_a m_factors_found_b m_factors_product_a m_factors_product_b : Int64) (m_primes_count : Int32) (m_primes_primeA m_primes_primeB : Nat → Int32) (m_one_a m_one_b m_two_a m_two_b m_four_a m_four_b m_out_a m_out_b m_spare_a m_spare_b : Int64) (m_taped m_states : Int32) (m_ra m_rb : Int64) (m_threes m_primes m_ones m_unit : Int32) (m_boxWide m_boxHigh m_boxStep : Int64) (m_listed : Int32) (m_tape m_has m_keptHas m_first m_second m_keptFirst m_keptSecond m_pa m_pb m_pNorm m_la0 m_lb0 : Nat → Int32) (hR : kR m_drawers_full m_drawers_kept m_drawers_partA m_drawers_partB m_drawers_keptA m_drawers_keptB m_drawers_keptFull m_tape_size m_tape_bytes m_primes_count m_primes_primeA m_primes_primeB m_taped m_tape m_has m_keptHas m_first m_second m_keptFirst m_keptSecond m_states m_la0 m_lb0 m_listed) : ∃ (y : Int32 × Int64 × Int64 × Int64 × Int64 × Int64 × Int32 × Int32 × Int32 × (Nat → Int64) × (Nat → Int64) × (Nat → Int64) × Int32 × Int64 × Int64 × Int64 × Int64 × Int64 × Int64 × Int64 × Int64 × Int64 × Int64 × Int64 × Int64 × Int64 × Int64 × (Nat → Int64) × (Nat → Int64) × Int64 × Int64 × Int64 × Int64 × Int64 × Int64 × Int64 × Int64 × Int64 × Int64 × Int64 × Int64 × Int64 × Int64 × Int64 × Int64) (z : Int32 × Int64 × Int64 × Int32 × Int32 × Int32 × Int32 × Int64 × Int64 × Int64 × (Nat → Int32) × (Nat → Int32) × (Nat → Int32)), f_X10_supplement N v1 v2 m_drawers_full m_drawers_partA m_drawers_partB m_modulus_step m_modulus_width m_modulus_slant m_modulus_square_a m_modulus_square_b m_factors_count m_factors_threes m_factors_unit m_factors_primeA m_factors_primeB m_factors_norms m_factors_euclid_count m_factors_euclid_last_a m_factors_euclid_last_b m_factors_euclid_lastOfFirst_a m_factors_euclid_lastOfFirst_b m_factors_euclid_lastOfSecond_a m_factors_euclid_lastOfSecond_b m_factors_euclid_next_a m_factors_euclid_next_b m_factors_euclid_nextOfFirst_a m_factors_euclid_nextOfFirst_b m_factors_euclid_nextOfSecond_a m_factors_euclid_nextOfSecond_b m_factors_euclid_q_a m_factors_euclid_q_b m_factors_euclid_quotientA m_factors_euclid_quotientB m_factors_left_a m_factors_left_b m_factors_found_a m_factors_found_b m_factors_product_a m_factors_product_b m_one_a m_one_b m_two_a m_two_b m_four_a m_four_b m_out_a m_out_b m_spare_a m_spare_b = some y ∧ f_X11_supplement N v1 v2 m_ra m_rb m_threes m_primes m_ones m_unit m_boxWide m_boxHigh m_boxStep m_has m_first m_second m_pa m_pb m_pNorm = some z ∧ y.1 = z.1 ∧ kR m_drawers_full m_drawers_kept m_drawers_partA m_drawers_partB m_drawers_keptA m_drawers_keptB m_drawers_keptFull m_tape_size m_tape_bytes m_primes_count m_primes_primeA m_primes_primeB m_taped m_tape m_has m_keptHas m_first m_second m_keptFirst m_keptSecond m_states m_la0 m_lb0 m_listed := by
  have hR0 := hR
  obtain ⟨⟨dr, hD⟩, hK, hT, hP⟩ := hR
  unfold f_X10_supplement f_X11_supplement
  rcases dr_cases v1 with h1 | ⟨i, hi, rfl⟩
  · rw [(dr_out h1).1, (dr_out h1).2, Option.bind_some, if_pos rfl, Option.bind_some, if_pos rfl]
    exact ⟨_, _, rfl, rfl, rfl, hR0⟩
  obtain ⟨w, hw, rfl⟩ := iI_of v2
  have hlt : (iI w < 0) = (w < 0) := propext (iI_lt0 hw)
  have hle : (iI w ≤ 3) = (w ≤ 3) := propext (iI_le hw (b := 3) ⟨by decide, by decide⟩)
  have hin : f_X11_in (iI w).toInt64 0 3 = some (if 0 ≤ w ∧ w ≤ 3 then 1 else 0) := s_in32 hw (l := 0) (h := 3) ⟨by decide, by decide⟩ ⟨by decide, by decide⟩
  rw [(dr_in hi).1, (dr_in hi).2, Option.bind_some, if_neg j1, Option.bind_some, if_neg j1, hin, Option.bind_some]
  simp only [hlt, hle]
  by_cases cw : 0 ≤ w ∧ w ≤ 3
  · rw [if_neg (show ¬ w < 0 by omega), if_pos cw.2, if_pos cw, if_neg j1]
    cases e1 : dr i with
    | none =>
      rw [s_has0 hD hi e1, Option.bind_some, if_pos rfl]
      simp only [hD.hasN hi e1, dr_cl hi, dr_n0 hi, dr_8 hi, or_self, if_false, if_true]
      exact ⟨_, _, rfl, rfl, rfl, hR0⟩
    | some p =>
      obtain ⟨c, d⟩ := p
      obtain ⟨hn, -, -, f1, g1⟩ := hD.num hi e1
      rw [s_has1 hD hi e1, Option.bind_some, if_neg j1, s_load hD hi e1, Option.bind_some]
      simp only [hD.has1 hi e1, dr_cl hi, dr_n0 hi, dr_8 hi, or_self, if_false, f1, g1, iI_l hn.b32.1, iI_l hn.b32.2, z10]
      rw [s_bears hn, s_hasSign hD hi e1, Option.bind_some, Option.bind_some]
      by_cases hs : hsb c d = true
      · rw [if_pos hs, if_neg j1, if_neg j1]
        have go : ∀ x y : Int, eb (x, y) → ∃ (r : Int32) (yC : _) (th m t u : Int32) (pa' pb' pn' : Nat → Int32) (yR : _), f_X10_signOf N m_modulus_step m_modulus_width m_modulus_slant m_modulus_square_a m_modulus_square_b m_factors_primeA m_factors_primeB m_factors_norms m_factors_euclid_count m_factors_euclid_last_a m_factors_euclid_last_b m_factors_euclid_lastOfFirst_a m_factors_euclid_lastOfFirst_b m_factors_euclid_lastOfSecond_a m_factors_euclid_lastOfSecond_b m_factors_euclid_next_a m_factors_euclid_next_b m_factors_euclid_nextOfFirst_a m_factors_euclid_nextOfFirst_b m_factors_euclid_nextOfSecond_a m_factors_euclid_nextOfSecond_b m_factors_euclid_q_a m_factors_euclid_q_b m_factors_euclid_quotientA m_factors_euclid_quotientB m_factors_found_a m_factors_found_b m_factors_product_a m_factors_product_b m_four_a m_four_b m_out_a m_out_b m_spare_a m_spare_b (lI x) (lI y) (lI c) (lI d) = some (r, yC) ∧ f_X11_writes N (lI c) (lI d) m_pa m_pb m_pNorm = some (lI c, lI d, th, m, t, u, pa', pb', pn') ∧ f_X11_signNow N (lI x) (lI y) (lI c) (lI d) m m_boxWide m_boxHigh m_boxStep pa' pb' = some (r, yR) := by
          intro x y hxy
          obtain ⟨r, rC, rR⟩ := s_signs hN (z := (x, y)) hxy hn (hsb_ne hs)
          obtain ⟨yC, ey⟩ := rC m_modulus_step m_modulus_width m_modulus_slant m_modulus_square_a m_modulus_square_b m_factors_primeA m_factors_primeB m_factors_norms m_factors_euclid_count m_factors_euclid_last_a m_factors_euclid_last_b m_factors_euclid_lastOfFirst_a m_factors_euclid_lastOfFirst_b m_factors_euclid_lastOfSecond_a m_factors_euclid_lastOfSecond_b m_factors_euclid_next_a m_factors_euclid_next_b m_factors_euclid_nextOfFirst_a m_factors_euclid_nextOfFirst_b m_factors_euclid_nextOfSecond_a m_factors_euclid_nextOfSecond_b m_factors_euclid_q_a m_factors_euclid_q_b m_factors_euclid_quotientA m_factors_euclid_quotientB m_factors_found_a m_factors_found_b m_factors_product_a m_factors_product_b m_four_a m_four_b m_out_a m_out_b m_spare_a m_spare_b
          obtain ⟨th, m, t, u, pa', pb', pn', e3, e4⟩ := rR m_pa m_pb m_pNorm
          obtain ⟨yR, e4⟩ := e4 (lI c) (lI d) m_boxWide m_boxHigh m_boxStep
          exact ⟨r, yC, th, m, t, u, pa', pb', pn', yR, ey, e3, e4⟩
        unfold f_X10_supplement_135 f_X11_supplement_94 f_X5_set
        have w4 : w = 0 ∨ w = 1 ∨ w = 2 ∨ w = 3 := by omega
        rcases w4 with rfl | rfl | rfl | rfl
        · obtain ⟨r, yC, th, m, t, u, pa', pb', pn', yR, q1, q2, q3⟩ := go 0 1 (by unfold eb; decide)
          have q1' : f_X10_signOf N m_modulus_step m_modulus_width m_modulus_slant m_modulus_square_a m_modulus_square_b m_factors_primeA m_factors_primeB m_factors_norms m_factors_euclid_count m_factors_euclid_last_a m_factors_euclid_last_b m_factors_euclid_lastOfFirst_a m_factors_euclid_lastOfFirst_b m_factors_euclid_lastOfSecond_a m_factors_euclid_lastOfSecond_b m_factors_euclid_next_a m_factors_euclid_next_b m_factors_euclid_nextOfFirst_a m_factors_euclid_nextOfFirst_b m_factors_euclid_nextOfSecond_a m_factors_euclid_nextOfSecond_b m_factors_euclid_q_a m_factors_euclid_q_b m_factors_euclid_quotientA m_factors_euclid_quotientB m_factors_found_a m_factors_found_b m_factors_product_a m_factors_product_b m_four_a m_four_b m_out_a m_out_b m_spare_a m_spare_b 0 1 (lI c) (lI d) = some (r, yC) := q1
          have q3' : f_X11_signNow N 0 1 (lI c) (lI d) m m_boxWide m_boxHigh m_boxStep pa' pb' = some (r, yR) := q3
          simp only [(show (iI 0 = 0) = True by exact eq_true (by decide)), (show (iI 0 = 1) = False by exact eq_false (by decide)), (show (iI 0 = 2) = False by exact eq_false (by decide)), Option.bind_some, q1', q2, q3', if_true, if_false]
          exact ⟨_, _, rfl, rfl, rfl, hR0⟩
        · obtain ⟨r, yC, th, m, t, u, pa', pb', pn', yR, q1, q2, q3⟩ := go 1 (-1) (by unfold eb; decide)
          have q1' : f_X10_signOf N m_modulus_step m_modulus_width m_modulus_slant m_modulus_square_a m_modulus_square_b m_factors_primeA m_factors_primeB m_factors_norms m_factors_euclid_count m_factors_euclid_last_a m_factors_euclid_last_b m_factors_euclid_lastOfFirst_a m_factors_euclid_lastOfFirst_b m_factors_euclid_lastOfSecond_a m_factors_euclid_lastOfSecond_b m_factors_euclid_next_a m_factors_euclid_next_b m_factors_euclid_nextOfFirst_a m_factors_euclid_nextOfFirst_b m_factors_euclid_nextOfSecond_a m_factors_euclid_nextOfSecond_b m_factors_euclid_q_a m_factors_euclid_q_b m_factors_euclid_quotientA m_factors_euclid_quotientB m_factors_found_a m_factors_found_b m_factors_product_a m_factors_product_b m_four_a m_four_b m_out_a m_out_b m_spare_a m_spare_b 1 (-1) (lI c) (lI d) = some (r, yC) := q1
          have q3' : f_X11_signNow N 1 (-1) (lI c) (lI d) m m_boxWide m_boxHigh m_boxStep pa' pb' = some (r, yR) := q3
          simp only [(show (iI 1 = 0) = False by exact eq_false (by decide)), (show (iI 1 = 1) = True by exact eq_true (by decide)), (show (iI 1 = 2) = False by exact eq_false (by decide)), Option.bind_some, q1', q2, q3', if_true, if_false]
          exact ⟨_, _, rfl, rfl, rfl, hR0⟩
        · obtain ⟨r, yC, th, m, t, u, pa', pb', pn', yR, q1, q2, q3⟩ := go 3 0 (by unfold eb; decide)
          have q1' : f_X10_signOf N m_modulus_step m_modulus_width m_modulus_slant m_modulus_square_a m_modulus_square_b m_factors_primeA m_factors_primeB m_factors_norms m_factors_euclid_count m_factors_euclid_last_a m_factors_euclid_last_b m_factors_euclid_lastOfFirst_a m_factors_euclid_lastOfFirst_b m_factors_euclid_lastOfSecond_a m_factors_euclid_lastOfSecond_b m_factors_euclid_next_a m_factors_euclid_next_b m_factors_euclid_nextOfFirst_a m_factors_euclid_nextOfFirst_b m_factors_euclid_nextOfSecond_a m_factors_euclid_nextOfSecond_b m_factors_euclid_q_a m_factors_euclid_q_b m_factors_euclid_quotientA m_factors_euclid_quotientB m_factors_found_a m_factors_found_b m_factors_product_a m_factors_product_b m_four_a m_four_b m_out_a m_out_b m_spare_a m_spare_b 3 0 (lI c) (lI d) = some (r, yC) := q1
          have q3' : f_X11_signNow N 3 0 (lI c) (lI d) m m_boxWide m_boxHigh m_boxStep pa' pb' = some (r, yR) := q3
          simp only [(show (iI 2 = 0) = False by exact eq_false (by decide)), (show (iI 2 = 1) = False by exact eq_false (by decide)), (show (iI 2 = 2) = True by exact eq_true (by decide)), Option.bind_some, q1', q2, q3', if_true, if_false]
          exact ⟨_, _, rfl, rfl, rfl, hR0⟩
        · obtain ⟨r, yC, th, m, t, u, pa', pb', pn', yR, q1, q2, q3⟩ := go 2 0 (by unfold eb; decide)
          have q1' : f_X10_signOf N m_modulus_step m_modulus_width m_modulus_slant m_modulus_square_a m_modulus_square_b m_factors_primeA m_factors_primeB m_factors_norms m_factors_euclid_count m_factors_euclid_last_a m_factors_euclid_last_b m_factors_euclid_lastOfFirst_a m_factors_euclid_lastOfFirst_b m_factors_euclid_lastOfSecond_a m_factors_euclid_lastOfSecond_b m_factors_euclid_next_a m_factors_euclid_next_b m_factors_euclid_nextOfFirst_a m_factors_euclid_nextOfFirst_b m_factors_euclid_nextOfSecond_a m_factors_euclid_nextOfSecond_b m_factors_euclid_q_a m_factors_euclid_q_b m_factors_euclid_quotientA m_factors_euclid_quotientB m_factors_found_a m_factors_found_b m_factors_product_a m_factors_product_b m_four_a m_four_b m_out_a m_out_b m_spare_a m_spare_b 2 0 (lI c) (lI d) = some (r, yC) := q1
          have q3' : f_X11_signNow N 2 0 (lI c) (lI d) m m_boxWide m_boxHigh m_boxStep pa' pb' = some (r, yR) := q3
          simp only [(show (iI 3 = 0) = False by exact eq_false (by decide)), (show (iI 3 = 1) = False by exact eq_false (by decide)), (show (iI 3 = 2) = False by exact eq_false (by decide)), Option.bind_some, q1', q2, q3', if_true, if_false]
          exact ⟨_, _, rfl, rfl, rfl, hR0⟩
      · rw [if_neg hs, if_pos rfl, if_pos rfl]
        exact ⟨_, _, rfl, rfl, rfl, hR0⟩
  · have cA : ∀ {α : Type} {P R : Option α}, (if w < 0 then P else if w ≤ 3 then R else P) = P := by
      intro α P R
      by_cases c1 : w < 0
      · rw [if_pos c1]
      · rw [if_neg c1, if_neg (by omega)]
    rw [cA, if_neg cw, if_pos rfl]
    exact ⟨_, _, rfl, rfl, rfl, hR0⟩
theorem s_isTold {full : Int32} {pA pB has fst snd : Nat → Int32} {dr : Nat → Option (Int × Int)} (hD : kRow full pA pB has fst snd 0 dr) {j : Nat} (hj : j < 8) {c d : Int} (e : dr j = some (c, d)) : f_X11_isTold (nI j) fst snd = some (if decide (c % 3 = 2 ∧ d % 3 = 0 ∧ nrm c d ≠ 1) then 1 else 0) := by
  obtain ⟨hn, -, -, f1, g1⟩ := hD.num hj e
  have hx : nrm c d ≤ 300000000 := hn.eb
  have n0 := nrm_nn c d
  unfold f_X11_isTold
  simp only [dr_cl hj, dr_n0 hj, dr_8 hj, or_self, if_false, f1, g1, iI_l hn.b32.1, iI_l hn.b32.2]
  rw [s_isPrimaryX hn.b64.1 hn.b64.2, Option.bind_some, s_normX, Option.bind_some]
  have e1 : (lI (nrm c d) ≤ 1) = (nrm c d ≤ 1) := propext (lI_le (b := 1) ⟨by omega, by omega⟩ ⟨by decide, by decide⟩)
  simp only [e1]
  by_cases cp : c % 3 = 2 ∧ d % 3 = 0
  · have c0 : ¬ (c = 0 ∧ d = 0) := by omega
    have p1 : 1 ≤ nrm c d := en_pos (ne00 c0)
    rw [if_pos cp, if_neg j1]
    by_cases c1 : nrm c d ≤ 1
    · have : ¬ decide (c % 3 = 2 ∧ d % 3 = 0 ∧ nrm c d ≠ 1) = true := by simp only [decide_eq_true_eq]; omega
      rw [if_pos c1, if_neg this]
    · have : decide (c % 3 = 2 ∧ d % 3 = 0 ∧ nrm c d ≠ 1) = true := by simp only [decide_eq_true_eq]; omega
      rw [if_neg c1, if_pos this]
  · have : ¬ decide (c % 3 = 2 ∧ d % 3 = 0 ∧ nrm c d ≠ 1) = true := by simp only [decide_eq_true_eq]; omega
    rw [if_neg cp, if_pos rfl, if_neg this]
theorem s_isUnit {c d : Int} (hn : kNum c d) : f_X5_isUnit (lI c) (lI d) = some (if nrm c d = 1 then 1 else 0) := by
  have hx : nrm c d ≤ 300000000 := hn.eb
  have n0 := nrm_nn c d
  have e : (lI (nrm c d) = 1) = (nrm c d = 1) := propext (lI_eq (b := 1) ⟨by omega, by omega⟩ ⟨by decide, by decide⟩)
  unfold f_X5_isUnit
  rw [s_norm, Option.bind_some]
  simp only [e]
  by_cases c : nrm c d = 1
  · rw [if_pos c, if_pos c]
  · rw [if_neg c, if_neg c]
theorem q_turned (N : Nat) (hN : 1048576 ≤ N) (v1 v2 : Int32) (m_drawers_full m_drawers_kept : Int32) (m_drawers_partA m_drawers_partB m_drawers_keptA m_drawers_keptB m_drawers_keptFull : Nat → Int32) (m_tape_size : Int32) (m_tape_bytes : Nat → Int32) (m_euclid_count : Int32) (m_euclid_last_a m_euclid_last_b m_euclid_lastOfFirst_a m_euclid_lastOfFirst_b m_euclid_lastOfSecond_a m_euclid_lastOfSecond_b m_euclid_next_a m_euclid_next_b m_euclid_nextOfFirst_a m_euclid_nextOfFirst_b m_euclid_nextOfSecond_a m_euclid_nextOfSecond_b m_euclid_q_a m_euclid_q_b : Int64) (m_euclid_quotientA m_euclid_quotientB : Nat → Int64) (m_modulus_step m_modulus_width m_modulus_slant m_modulus_square_a m_modulus_square_b : Int64) (m_factors_count m_factors_threes m_factors_unit : Int32) (m_factors_primeA m_factors_primeB m_factors_norms : Nat → Int64) (m_factors_euclid_count : Int32) (m_factors_euclid_last_a m_factors_euclid_last_b m_factors_euclid_lastOfFirst_a m_factors_euclid_lastOfFirst_b m_factors_euclid_lastOfSecond_a m_factors_euclid_lastOfSecond_b m_factors_euclid_next_a m_factors_euclid_next_b m_factors_euclid_nextOfFirst_a m_factors_euclid_nextOfFirst_b m_factors_euclid_nextOfSecond_a m_factors_euclid_nextOfSecond_b m_factors_euclid_q_a m_factors_euclid_q_b : Int64) (m_factors_euclid_quotientA m_factors_euclid_quotientB : Nat → Int64) (m_factors_left_a m_factors_left_b m_factors_found_a m_factors_found_b m_factors_product_a m_factors_product_b : Int64) (m_primes_count : Int32) (m_primes_primeA m_primes_primeB : Nat → Int32) (m_one_a m_one_b m_two_a m_two_b m_four_a m_four_b m_out_a m_out_b m_spare_a m_spare_b : Int64) (m_taped m_states : Int32) (m_ra m_rb : Int64) (m_threes m_primes m_ones m_unit : Int32) (m_boxWide m_boxHigh m_boxStep : Int64) (m_listed : Int32) (m_tape m_has m_keptHas m_first m_second m_keptFirst m_keptSecond m_pa m_pb m_pNorm m_la0 m_lb0 : Nat → Int32) (hR : kR m_drawers_full m_drawers_kept m_drawers_partA m_drawers_partB m_drawers_keptA m_drawers_keptB m_drawers_keptFull m_tape_size m_tape_bytes m_primes_count m_primes_primeA m_primes_primeB m_taped m_tape m_has m_keptHas m_first m_second m_keptFirst m_keptSecond m_states m_la0 m_lb0 m_listed) : ∃ (y : Int32 × Int32 × Int64 × Int64 × Int64 × Int64 × Int64 × Int64 × Int64 × Int64 × Int64 × Int64 × Int64 × Int64 × Int64 × Int64 × (Nat → Int64) × (Nat → Int64) × Int64 × Int64 × Int64 × Int64 × Int64 × Int32 × Int32 × Int32 × (Nat → Int64) × (Nat → Int64) × (Nat → Int64) × Int32 × Int64 × Int64 × Int64 × Int64 × Int64 × Int64 × Int64 × Int64 × Int64 × Int64 × Int64 × Int64 × Int64 × Int64 × (Nat → Int64) × (Nat → Int64) × Int64 × Int64 × Int64 × Int64 × Int64 × Int64 × Int64 × Int64 × Int64 × Int64 × Int64 × Int64 × Int64 × Int64 × Int64 × Int64) (z : Int32 × Int64 × Int64 × Int32 × Int32 × Int32 × Int32 × Int64 × Int64 × Int64 × (Nat → Int32) × (Nat → Int32) × (Nat → Int32)), f_X10_turned N v1 v2 m_drawers_full m_drawers_partA m_drawers_partB m_euclid_count m_euclid_last_a m_euclid_last_b m_euclid_lastOfFirst_a m_euclid_lastOfFirst_b m_euclid_lastOfSecond_a m_euclid_lastOfSecond_b m_euclid_next_a m_euclid_next_b m_euclid_nextOfFirst_a m_euclid_nextOfFirst_b m_euclid_nextOfSecond_a m_euclid_nextOfSecond_b m_euclid_q_a m_euclid_q_b m_euclid_quotientA m_euclid_quotientB m_modulus_step m_modulus_width m_modulus_slant m_modulus_square_a m_modulus_square_b m_factors_count m_factors_threes m_factors_unit m_factors_primeA m_factors_primeB m_factors_norms m_factors_euclid_count m_factors_euclid_last_a m_factors_euclid_last_b m_factors_euclid_lastOfFirst_a m_factors_euclid_lastOfFirst_b m_factors_euclid_lastOfSecond_a m_factors_euclid_lastOfSecond_b m_factors_euclid_next_a m_factors_euclid_next_b m_factors_euclid_nextOfFirst_a m_factors_euclid_nextOfFirst_b m_factors_euclid_nextOfSecond_a m_factors_euclid_nextOfSecond_b m_factors_euclid_q_a m_factors_euclid_q_b m_factors_euclid_quotientA m_factors_euclid_quotientB m_factors_left_a m_factors_left_b m_factors_found_a m_factors_found_b m_factors_product_a m_factors_product_b m_one_a m_one_b m_two_a m_two_b m_four_a m_four_b m_out_a m_out_b m_spare_a m_spare_b = some y ∧ f_X11_turned N v1 v2 m_ra m_rb m_threes m_primes m_ones m_unit m_boxWide m_boxHigh m_boxStep m_has m_first m_second m_pa m_pb m_pNorm = some z ∧ y.1 = z.1 ∧ kR m_drawers_full m_drawers_kept m_drawers_partA m_drawers_partB m_drawers_keptA m_drawers_keptB m_drawers_keptFull m_tape_size m_tape_bytes m_primes_count m_primes_primeA m_primes_primeB m_taped m_tape m_has m_keptHas m_first m_second m_keptFirst m_keptSecond m_states m_la0 m_lb0 m_listed := by
  have hR0 := hR
  obtain ⟨⟨dr, hD⟩, hK, hT, hP⟩ := hR
  unfold f_X10_turned f_X11_turned
  rcases dr_two dr v1 v2 with h | ⟨i, j, hi, hj, rfl, rfl, h | ⟨a, b, c, d, e1, e2⟩⟩
  · rw [s_two_out h, Option.bind_some, if_neg jm1]
    rcases s_both_out h with h' | ⟨h', h''⟩
    · rw [h', Option.bind_some, if_pos rfl]
      exact ⟨_, _, rfl, rfl, rfl, hR0⟩
    · rw [h', Option.bind_some, if_neg j1, h'', Option.bind_some, if_pos rfl]
      exact ⟨_, _, rfl, rfl, rfl, hR0⟩
  · rw [(dr_in hi).2, (dr_in hj).2, Option.bind_some, if_neg j1, Option.bind_some, if_neg j1, s_hasBoth hD hi hj, isome_and h, s_two_none hD hi hj h, Option.bind_some, if_neg jm2, Option.bind_some]
    exact ⟨_, _, rfl, rfl, rfl, hR0⟩
  · obtain ⟨hn1, -, -, f1, g1⟩ := hD.num hi e1
    obtain ⟨hn2, -, -, f2, g2⟩ := hD.num hj e2
    rw [(dr_in hi).2, (dr_in hj).2, Option.bind_some, if_neg j1, Option.bind_some, if_neg j1, s_hasBoth hD hi hj, isome_and1 e1 e2, s_two hD hi hj e1 e2, Option.bind_some, if_pos rfl, Option.bind_some, if_neg (show ¬ (if true = true then (1 : Int32) else 0) = 0 by decide), s_isTold hD hi e1, s_isTold hD hj e2, Option.bind_some, Option.bind_some]
    simp only []
    rw [s_isPrimary hn1.b64.1 hn1.b64.2, s_isPrimary hn2.b64.1 hn2.b64.2, Option.bind_some, Option.bind_some]
    by_cases c1 : a % 3 = 2 ∧ b % 3 = 0
    · rw [if_pos c1, if_neg j1]
      by_cases c2 : c % 3 = 2 ∧ d % 3 = 0
      · rw [if_pos c2, if_neg j1]
        unfold f_X10_turned_38
        rw [if_neg j1, s_isUnit hn1, s_isUnit hn2, Option.bind_some, Option.bind_some]
        by_cases u1 : nrm a b = 1
        · have q1 : ¬ decide (a % 3 = 2 ∧ b % 3 = 0 ∧ nrm a b ≠ 1) = true := by simp only [decide_eq_true_eq]; omega
          rw [if_pos u1, if_neg j1, if_neg q1, if_pos rfl]
          exact ⟨_, _, rfl, rfl, rfl, hR0⟩
        · have q1 : decide (a % 3 = 2 ∧ b % 3 = 0 ∧ nrm a b ≠ 1) = true := by simp only [decide_eq_true_eq]; omega
          rw [if_neg u1, if_pos rfl, if_pos q1, if_neg j1]
          by_cases u2 : nrm c d = 1
          · have q2 : ¬ decide (c % 3 = 2 ∧ d % 3 = 0 ∧ nrm c d ≠ 1) = true := by simp only [decide_eq_true_eq]; omega
            rw [if_pos u2, if_neg j1, if_neg q2, if_pos rfl]
            exact ⟨_, _, rfl, rfl, rfl, hR0⟩
          · have q2 : decide (c % 3 = 2 ∧ d % 3 = 0 ∧ nrm c d ≠ 1) = true := by simp only [decide_eq_true_eq]; omega
            rw [if_neg u2, if_pos rfl, if_pos q2, if_neg j1]
            have n1 : (a, b) ≠ (0, 0) := ne00 (by omega)
            have n2 : (c, d) ≠ (0, 0) := ne00 (by omega)
            obtain ⟨v, n', hv, -, -, -, -, kC, kR', -⟩ := s_primeTo hN hn1.eb hn2.eb
            obtain ⟨qa', qb', QA', QB', kC⟩ := kC m_euclid_q_a m_euclid_q_b m_euclid_quotientA m_euclid_quotientB
            obtain ⟨ra', rb', kR'⟩ := kR' m_ra m_rb
            simp only [dr_cl hi, dr_n0 hi, dr_8 hi, dr_cl hj, dr_n0 hj, dr_8 hj, or_self, if_false, f1, g1, f2, g2, iI_l hn1.b32.1, iI_l hn1.b32.2, iI_l hn2.b32.1, iI_l hn2.b32.2]
            rw [kC, kR', Option.bind_some, Option.bind_some]
            rcases hv with rfl | rfl
            · rw [if_pos rfl, if_pos rfl]
              exact ⟨_, _, rfl, rfl, rfl, hR0⟩
            · rw [if_neg j1, if_neg j1]
              obtain ⟨r, rC, rR⟩ := s_signs hN (z := (a, b)) hn1.eb hn2 n2
              obtain ⟨r', rC', rR'⟩ := s_signs hN (z := (c, d)) hn2.eb hn1 n1
              obtain ⟨y, ey⟩ := rC m_modulus_step m_modulus_width m_modulus_slant m_modulus_square_a m_modulus_square_b m_factors_primeA m_factors_primeB m_factors_norms m_factors_euclid_count m_factors_euclid_last_a m_factors_euclid_last_b m_factors_euclid_lastOfFirst_a m_factors_euclid_lastOfFirst_b m_factors_euclid_lastOfSecond_a m_factors_euclid_lastOfSecond_b m_factors_euclid_next_a m_factors_euclid_next_b m_factors_euclid_nextOfFirst_a m_factors_euclid_nextOfFirst_b m_factors_euclid_nextOfSecond_a m_factors_euclid_nextOfSecond_b m_factors_euclid_q_a m_factors_euclid_q_b m_factors_euclid_quotientA m_factors_euclid_quotientB m_factors_found_a m_factors_found_b m_factors_product_a m_factors_product_b m_four_a m_four_b m_out_a m_out_b m_spare_a m_spare_b
              have ey' : f_X10_signOf N m_modulus_step m_modulus_width m_modulus_slant m_modulus_square_a m_modulus_square_b m_factors_primeA m_factors_primeB m_factors_norms m_factors_euclid_count m_factors_euclid_last_a m_factors_euclid_last_b m_factors_euclid_lastOfFirst_a m_factors_euclid_lastOfFirst_b m_factors_euclid_lastOfSecond_a m_factors_euclid_lastOfSecond_b m_factors_euclid_next_a m_factors_euclid_next_b m_factors_euclid_nextOfFirst_a m_factors_euclid_nextOfFirst_b m_factors_euclid_nextOfSecond_a m_factors_euclid_nextOfSecond_b m_factors_euclid_q_a m_factors_euclid_q_b m_factors_euclid_quotientA m_factors_euclid_quotientB m_factors_found_a m_factors_found_b m_factors_product_a m_factors_product_b m_four_a m_four_b m_out_a m_out_b m_spare_a m_spare_b (lI a) (lI b) (lI c) (lI d) = some (r, y) := ey
              rw [ey', Option.bind_some]
              obtain ⟨y1, y2, y3, y4, y5, y6, y7, y8, y9, y10, y11, y12, y13, y14, y15, y16, y17, y18, y19, y20, y21, y22, y23, y24, y25, y26, y27, y28, y29, y30, y31, y32, y33, y34, y35, y36, y37, y38, y39, y40⟩ := y
              simp only []
              obtain ⟨x, ex⟩ := rC' y1 y2 y3 y4 y5 y9 y10 y11 y12 y13 y14 y15 y16 y17 y18 y19 y20 y21 y22 y23 y24 y25 y26 y27 y28 y31 y32 y33 y34 y35 y36 y37 y38 y39 y40
              have ex' : f_X10_signOf N y1 y2 y3 y4 y5 y9 y10 y11 y12 y13 y14 y15 y16 y17 y18 y19 y20 y21 y22 y23 y24 y25 y26 y27 y28 y31 y32 y33 y34 y35 y36 y37 y38 y39 y40 (lI c) (lI d) (lI a) (lI b) = some (r', x) := ex
              rw [ex', Option.bind_some]
              unfold f_X11_signOf
              simp only [dr_cl hi, dr_n0 hi, dr_8 hi, dr_cl hj, dr_n0 hj, dr_8 hj, or_self, if_false, f1, g1, f2, g2, iI_l hn1.b32.1, iI_l hn1.b32.2, iI_l hn2.b32.1, iI_l hn2.b32.2]
              obtain ⟨th, m, t, u, pa', pb', pn', e3, e4⟩ := rR m_pa m_pb m_pNorm
              obtain ⟨z, e4⟩ := e4 (lI c) (lI d) m_boxWide m_boxHigh m_boxStep
              have e4' : f_X11_signNow N (lI a) (lI b) (lI c) (lI d) m m_boxWide m_boxHigh m_boxStep pa' pb' = some (r, z) := e4
              rw [e3, Option.bind_some]
              simp only []
              rw [e4', Option.bind_some, Option.bind_some]
              obtain ⟨th2, m2, t2, u2, pa2, pb2, pn2, e5, e6⟩ := rR' pa' pb' pn'
              obtain ⟨z1, z2, z3, z4, z5⟩ := z
              obtain ⟨z', e6⟩ := e6 (lI a) (lI b) z3 z4 z5
              have e6' : f_X11_signNow N (lI c) (lI d) (lI a) (lI b) m2 z3 z4 z5 pa2 pb2 = some (r', z') := e6
              simp only []
              rw [e5, Option.bind_some]
              simp only []
              rw [e6', Option.bind_some, Option.bind_some]
              exact ⟨_, _, rfl, rfl, rfl, hR0⟩
      · have q2 : ¬ decide (c % 3 = 2 ∧ d % 3 = 0 ∧ nrm c d ≠ 1) = true := by simp only [decide_eq_true_eq]; omega
        rw [if_neg c2, if_pos rfl]
        unfold f_X10_turned_38
        rw [if_pos rfl, if_neg q2, if_pos rfl]
        by_cases q1 : decide (a % 3 = 2 ∧ b % 3 = 0 ∧ nrm a b ≠ 1) = true
        · rw [if_pos q1, if_neg j1]
          exact ⟨_, _, rfl, rfl, rfl, hR0⟩
        · rw [if_neg q1, if_pos rfl]
          exact ⟨_, _, rfl, rfl, rfl, hR0⟩
    · have q1 : ¬ decide (a % 3 = 2 ∧ b % 3 = 0 ∧ nrm a b ≠ 1) = true := by simp only [decide_eq_true_eq]; omega
      rw [if_neg c1, if_pos rfl]
      unfold f_X10_turned_38
      rw [if_pos rfl, if_neg q1, if_pos rfl]
      exact ⟨_, _, rfl, rfl, rfl, hR0⟩
