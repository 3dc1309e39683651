/-! ===== signBy, sign, supplement, turned ===== -/
def hsb (c d : Int) : Bool := decide ((c + d) % 3 ≠ 0 ∧ nrm c d ≠ 1)
theorem hsb_iff {c d : Int} : hsb c d = true ↔ ((c + d) % 3 ≠ 0 ∧ nrm c d ≠ 1) := decide_eq_true_iff
theorem hsb_ne {c d : Int} (h : hsb c d = true) : (c, d) ≠ (0, 0) := fun z => by
  obtain ⟨rfl, rfl⟩ := Prod.mk.inj z
  exact absurd h (by decide)
theorem s_bears {c d : Int} (hn : kNum c d) : f_X10_bearsSigns (lI c) (lI d) = some (if hsb c d then 1 else 0) := by
  have hx : nrm c d ≤ 300000000 := hn.eb
  have n0 := nrm_nn c d
  have e : (lI (nrm c d) = 1) = (nrm c d = 1) := propext (lI_eq (b := 1) ⟨by omega, by omega⟩ ⟨by decide, by decide⟩)
  unfold f_X10_bearsSigns f_X5_isUnit
  rw [s_isOfThree (eb_sum hn.eb), Option.bind_some, s_norm, Option.bind_some]
  simp only [e]
  by_cases c3 : (c + d) % 3 = 0
  · have : ¬ hsb c d = true := by rw [hsb_iff]; exact fun z => z.1 c3
    rw [if_pos c3, if_neg j1, if_neg this]
  · rw [if_neg c3, if_pos rfl]
    by_cases c1 : nrm c d = 1
    · have : ¬ hsb c d = true := by rw [hsb_iff]; exact fun z => z.2 c1
      rw [if_pos c1, Option.bind_some, if_neg j1, if_neg this]
    · have : hsb c d = true := by rw [hsb_iff]; exact ⟨c3, c1⟩
      rw [if_neg c1, Option.bind_some, if_pos rfl, if_pos this]
theorem s_hasSign {full : Int32} {pA pB has fst snd : Nat → Int32} {dr : Nat → Option (Int × Int)} (hD : kRow full pA pB has fst snd 0 dr) {j : Nat} (hj : j < 8) {c d : Int} (e : dr j = some (c, d)) : f_X11_hasSign (nI j) fst snd = some (if hsb c d then 1 else 0) := by
  obtain ⟨hn, -, -, f1, g1⟩ := hD.num hj e
  have hx : nrm c d ≤ 300000000 := hn.eb
  have n0 := nrm_nn c d
  unfold f_X11_hasSign
  rw [s_isNothing hD hj e, Option.bind_some]
  simp only [dr_cl hj, dr_n0 hj, dr_8 hj, or_self, if_false, f1, g1, iI_l hn.b32.1, iI_l hn.b32.2]
  rw [s_normX, Option.bind_some, s_isThree (eb_sum hn.eb), Option.bind_some]
  have e1 : (lI (nrm c d) ≤ 1) = (nrm c d ≤ 1) := propext (lI_le (b := 1) ⟨by omega, by omega⟩ ⟨by decide, by decide⟩)
  simp only [e1]
  by_cases c0 : c = 0 ∧ d = 0
  · have : ¬ hsb c d = true := by rw [hsb_iff, c0.1, c0.2]; decide
    rw [if_pos c0, if_neg j1, if_neg this]
  · have p1 : 1 ≤ nrm c d := en_pos (ne00 c0)
    rw [if_neg c0, if_pos rfl]
    by_cases c1 : nrm c d ≤ 1
    · have : ¬ hsb c d = true := by rw [hsb_iff]; exact fun z => z.2 (by omega)
      rw [if_pos c1, if_neg this]
    · rw [if_neg c1]
      by_cases c3 : (c + d) % 3 = 0
      · have : ¬ hsb c d = true := by rw [hsb_iff]; exact fun z => z.1 c3
        rw [if_pos c3, if_neg j1, if_neg this]
      · have : hsb c d = true := by rw [hsb_iff]; exact ⟨c3, by omega⟩
        rw [if_neg c3, if_pos rfl, if_pos this]
theorem q_signBy (N : Nat) (hN : 1048576 ≤ N) (v1 v2 v3 : Int32) (m_drawers_full m_drawers_kept : Int32) (m_drawers_partA m_drawers_partB m_drawers_keptA m_drawers_keptB m_drawers_keptFull : Nat → Int32) (m_tape_size : Int32) (m_tape_bytes : Nat → Int32) (m_modulus_step m_modulus_width m_modulus_slant m_modulus_square_a m_modulus_square_b : Int64) (m_factors_count m_factors_threes m_factors_unit : Int32) (m_factors_primeA m_factors_primeB m_factors_norms : Nat → Int64) (m_factors_euclid_count : Int32) (m_factors_euclid_last_a m_factors_euclid_last_b m_factors_euclid_lastOfFirst_a m_factors_euclid_lastOfFirst_b m_factors_euclid_lastOfSecond_a m_factors_euclid_lastOfSecond_b m_factors_euclid_next_a m_factors_euclid_next_b m_factors_euclid_nextOfFirst_a m_factors_euclid_nextOfFirst_b m_factors_euclid_nextOfSecond_a m_factors_euclid_nextOfSecond_b m_factors_euclid_q_a m_factors_euclid_q_b : Int64) (m_factors_euclid_quotientA m_factors_euclid_quotientB : Nat → Int64) (m_factors_left_a m_factors_left_b m_factors_found_a m_factors_found_b m_factors_product_a m_factors_product_b : Int64) (m_primes_count : Int32) (m_primes_primeA m_primes_primeB : Nat → Int32) (m_one_a m_one_b m_two_a m_two_b m_four_a m_four_b m_out_a m_out_b m_spare_a m_spare_b : Int64) (m_taped m_states : Int32) (m_ra m_rb : Int64) (m_threes m_primes m_ones m_unit : Int32) (m_boxWide m_boxHigh m_boxStep : Int64) (m_listed : Int32) (m_tape m_has m_keptHas m_first m_second m_keptFirst m_keptSecond m_pa m_pb m_pNorm m_la0 m_lb0 : Nat → Int32) (hR : kR m_drawers_full m_drawers_kept m_drawers_partA m_drawers_partB m_drawers_keptA m_drawers_keptB m_drawers_keptFull m_tape_size m_tape_bytes m_primes_count m_primes_primeA m_primes_primeB m_taped m_tape m_has m_keptHas m_first m_second m_keptFirst m_keptSecond m_states m_la0 m_lb0 m_listed) : ∃ (y : Int32 × Int64 × Int64 × Int64 × Int64 × Int64 × Int32 × Int32 × Int32 × (Nat → Int64) × (Nat → Int64) × (Nat → Int64) × Int32 × Int64 × Int64 × Int64 × Int64 × Int64 × Int64 × Int64 × Int64 × Int64 × Int64 × Int64 × Int64 × Int64 × Int64 × (Nat → Int64) × (Nat → Int64) × Int64 × Int64 × Int64 × Int64 × Int64 × Int64 × Int64 × Int64 × Int64 × Int64 × Int64 × Int64 × Int64 × Int64 × Int64 × Int64) (z : Int32 × Int64 × Int64 × Int32 × Int32 × Int32 × Int32 × Int64 × Int64 × Int64 × (Nat → Int32) × (Nat → Int32) × (Nat → Int32)), f_X10_signBy N v1 v2 v3 m_drawers_full m_drawers_partA m_drawers_partB m_modulus_step m_modulus_width m_modulus_slant m_modulus_square_a m_modulus_square_b m_factors_count m_factors_threes m_factors_unit m_factors_primeA m_factors_primeB m_factors_norms m_factors_euclid_count m_factors_euclid_last_a m_factors_euclid_last_b m_factors_euclid_lastOfFirst_a m_factors_euclid_lastOfFirst_b m_factors_euclid_lastOfSecond_a m_factors_euclid_lastOfSecond_b m_factors_euclid_next_a m_factors_euclid_next_b m_factors_euclid_nextOfFirst_a m_factors_euclid_nextOfFirst_b m_factors_euclid_nextOfSecond_a m_factors_euclid_nextOfSecond_b m_factors_euclid_q_a m_factors_euclid_q_b m_factors_euclid_quotientA m_factors_euclid_quotientB m_factors_left_a m_factors_left_b m_factors_found_a m_factors_found_b m_factors_product_a m_factors_product_b m_one_a m_one_b m_two_a m_two_b m_four_a m_four_b m_out_a m_out_b m_spare_a m_spare_b = some y ∧ f_X11_signBy N v1 v2 v3 m_ra m_rb m_threes m_primes m_ones m_unit m_boxWide m_boxHigh m_boxStep m_has m_first m_second m_pa m_pb m_pNorm = some z ∧ y.1 = z.1 ∧ kR m_drawers_full m_drawers_kept m_drawers_partA m_drawers_partB m_drawers_keptA m_drawers_keptB m_drawers_keptFull m_tape_size m_tape_bytes m_primes_count m_primes_primeA m_primes_primeB m_taped m_tape m_has m_keptHas m_first m_second m_keptFirst m_keptSecond m_states m_la0 m_lb0 m_listed := by
  have hR0 := hR
  obtain ⟨⟨dr, hD⟩, hK, hT, hP⟩ := hR
  unfold f_X10_signBy f_X11_signBy
  rcases dr_two dr v1 v2 with h | ⟨i, j, hi, hj, rfl, rfl, h | ⟨a, b, c, d, e1, e2⟩⟩
  · have key : ∀ X Y : Option (Int32 × Int64 × Int64 × Int32 × Int32 × Int32 × Int32 × Int64 × Int64 × Int64 × (Nat → Int32) × (Nat → Int32) × (Nat → Int32)), ((f_X11_isDrawer v1).bind fun y1 => if y1 = 0 then X else (f_X11_isDrawer v2).bind fun y8 => if y8 = 0 then X else Y) = X := by
      intro X Y
      rcases s_both_out h with h' | ⟨h', h''⟩
      · rw [h', Option.bind_some, if_pos rfl]
      · rw [h', Option.bind_some, if_neg j1, h'', Option.bind_some, if_pos rfl]
    rw [key]
    by_cases c0 : 0 ≤ v3
    · rw [if_pos c0, s_two_out h, Option.bind_some, if_neg jm1]
      exact ⟨_, _, rfl, rfl, rfl, hR0⟩
    · rw [if_neg c0]
      exact ⟨_, _, rfl, rfl, rfl, hR0⟩
  · rw [(dr_in hi).2, (dr_in hj).2, Option.bind_some, if_neg j1, Option.bind_some, if_neg j1, s_hasBoth hD hi hj, isome_and h]
    by_cases c0 : 0 ≤ v3
    · rw [if_pos c0, if_pos c0, s_two_none hD hi hj h, Option.bind_some, if_neg jm2, Option.bind_some]
      exact ⟨_, _, rfl, rfl, rfl, hR0⟩
    · rw [if_neg c0, if_neg c0]
      exact ⟨_, _, rfl, rfl, rfl, hR0⟩
  · obtain ⟨hn1, -, -, f1, g1⟩ := hD.num hi e1
    obtain ⟨hn2, -, -, f2, g2⟩ := hD.num hj e2
    rw [(dr_in hi).2, (dr_in hj).2, Option.bind_some, if_neg j1, Option.bind_some, if_neg j1, s_hasBoth hD hi hj, isome_and1 e1 e2]
    by_cases c0 : 0 ≤ v3
    · rw [if_pos c0, if_pos c0, s_two hD hi hj e1 e2, Option.bind_some, if_pos rfl, Option.bind_some, if_neg (show ¬ (if true = true then (1 : Int32) else 0) = 0 by decide), s_hasSign hD hj e2, Option.bind_some]
      simp only []
      rw [s_bears hn2, Option.bind_some]
      by_cases hs : hsb c d = true
      · rw [if_pos hs, if_neg j1, if_neg j1]
        obtain ⟨k, hk, rfl⟩ := nI_of (x := v3) (by rw [Int32.not_lt]; exact c0)
        obtain ⟨L, t, u, s1, s2, s3, s4, s5, s6, C, R⟩ := s_fac2 hN hn2 (hsb_ne hs)
        obtain ⟨A', B', n', z, r1, e3⟩ := C m_factors_primeA m_factors_primeB m_factors_norms m_factors_euclid_count m_factors_euclid_last_a m_factors_euclid_last_b m_factors_euclid_lastOfFirst_a m_factors_euclid_lastOfFirst_b m_factors_euclid_lastOfSecond_a m_factors_euclid_lastOfSecond_b m_factors_euclid_next_a m_factors_euclid_next_b m_factors_euclid_nextOfFirst_a m_factors_euclid_nextOfFirst_b m_factors_euclid_nextOfSecond_a m_factors_euclid_nextOfSecond_b m_factors_euclid_q_a m_factors_euclid_q_b m_factors_euclid_quotientA m_factors_euclid_quotientB m_factors_found_a m_factors_found_b m_factors_product_a m_factors_product_b
        obtain ⟨th, pa', pb', pn', r2, e4⟩ := R m_pa m_pb m_pNorm
        simp only [dr_cl hi, dr_n0 hi, dr_8 hi, dr_cl hj, dr_n0 hj, dr_8 hj, or_self, if_false, f1, g1, f2, g2, iI_l hn1.b32.1, iI_l hn1.b32.2, iI_l hn2.b32.1, iI_l hn2.b32.2]
        rw [e3, e4, Option.bind_some, Option.bind_some]
        by_cases c3 : k < L.length
        · have lt : nI k < nI L.length := nI_lt c3 (by omega)
          have ge : ¬ nI L.length ≤ nI k := nI_ge c3 (by omega)
          have o := nI_in (show k < 40 by omega) (by decide)
          have mk := List.getElem_mem c3
          have bk := eb_32 (a := L[k].1) (b := L[k].2) (s2 _ mk)
          have hk' := r2 k c3
          obtain ⟨v, v3', vc, vr⟩ := s_sgn hN (z := (a, b)) hn1.eb (s1.2 _ mk) (s2 _ mk)
          obtain ⟨y, ey⟩ := vc m_modulus_step m_modulus_width m_modulus_slant m_four_a m_four_b
          obtain ⟨y', ey'⟩ := vr m_boxWide m_boxHigh m_boxStep
          have ey1 : f_X10_signByPrime N m_modulus_step m_modulus_width m_modulus_slant m_four_a m_four_b (lI a) (lI b) (lI L[k].1) (lI L[k].2) = some (nI v, y) := ey
          have ey2 : f_X11_signAt N (lI a) (lI b) (lI L[k].1) (lI L[k].2) m_boxWide m_boxHigh m_boxStep = some (nI v, y') := ey'
          rw [if_pos lt, if_neg ge]
          simp only []
          rw [s_load2 r1 c3 s3, Option.bind_some, if_neg o, if_neg o, nI_clamp (by omega), hk'.1, hk'.2.1, iI_l bk.1, iI_l bk.2, ey2, Option.bind_some]
          simp only []
          rw [ey1, Option.bind_some]
          exact ⟨_, _, rfl, rfl, rfl, hR0⟩
        · have lt : ¬ nI k < nI L.length := nI_nlt (by omega) (by omega)
          have ge : nI L.length ≤ nI k := nI_le (by omega) (by omega)
          rw [if_neg lt, if_pos ge]
          exact ⟨_, _, rfl, rfl, rfl, hR0⟩
      · rw [if_neg hs, if_pos rfl, if_pos rfl]
        exact ⟨_, _, rfl, rfl, rfl, hR0⟩
    · rw [if_neg c0, if_neg c0]
      exact ⟨_, _, rfl, rfl, rfl, hR0⟩
theorem q_sign (N : Nat) (hN : 1048576 ≤ N) (v1 v2 : Int32) (m_drawers_full m_drawers_kept : Int32) (m_drawers_partA m_drawers_partB m_drawers_keptA m_drawers_keptB m_drawers_keptFull : Nat → Int32) (m_tape_size : Int32) (m_tape_bytes : Nat → Int32) (m_modulus_step m_modulus_width m_modulus_slant m_modulus_square_a m_modulus_square_b : Int64) (m_factors_count m_factors_threes m_factors_unit : Int32) (m_factors_primeA m_factors_primeB m_factors_norms : Nat → Int64) (m_factors_euclid_count : Int32) (m_factors_euclid_last_a m_factors_euclid_last_b m_factors_euclid_lastOfFirst_a m_factors_euclid_lastOfFirst_b m_factors_euclid_lastOfSecond_a m_factors_euclid_lastOfSecond_b m_factors_euclid_next_a m_factors_euclid_next_b m_factors_euclid_nextOfFirst_a m_factors_euclid_nextOfFirst_b m_factors_euclid_nextOfSecond_a m_factors_euclid_nextOfSecond_b m_factors_euclid_q_a m_factors_euclid_q_b : Int64) (m_factors_euclid_quotientA m_factors_euclid_quotientB : Nat → Int64) (m_factors_left_a m_factors_left_b m_factors_found_a m_factors_found_b m_factors_product_a m_factors_product_b : Int64) (m_primes_count : Int32) (m_primes_primeA m_primes_primeB : Nat → Int32) (m_one_a m_one_b m_two_a m_two_b m_four_a m_four_b m_out_a m_out_b m_spare_a m_spare_b : Int64) (m_taped m_states : Int32) (m_ra m_rb : Int64) (m_threes m_primes m_ones m_unit : Int32) (m_boxWide m_boxHigh m_boxStep : Int64) (m_listed : Int32) (m_tape m_has m_keptHas m_first m_second m_keptFirst m_keptSecond m_pa m_pb m_pNorm m_la0 m_lb0 : Nat → Int32) (hR : kR m_drawers_full m_drawers_kept m_drawers_partA m_drawers_partB m_drawers_keptA m_drawers_keptB m_drawers_keptFull m_tape_size m_tape_bytes m_primes_count m_primes_primeA m_primes_primeB m_taped m_tape m_has m_keptHas m_first m_second m_keptFirst m_keptSecond m_states m_la0 m_lb0 m_listed) : ∃ (y : Int32 × Int64 × Int64 × Int64 × Int64 × Int64 × Int32 × Int32 × Int32 × (Nat → Int64) × (Nat → Int64) × (Nat → Int64) × Int32 × Int64 × Int64 × Int64 × Int64 × Int64 × Int64 × Int64 × Int64 × Int64 × Int64 × Int64 × Int64 × Int64 × Int64 × (Nat → Int64) × (Nat → Int64) × Int64 × Int64 × Int64 × Int64 × Int64 × Int64 × Int64 × Int64 × Int64 × Int64 × Int64 × Int64 × Int64 × Int64 × Int64 × Int64) (z : Int32 × Int64 × Int64 × Int32 × Int32 × Int32 × Int32 × Int64 × Int64 × Int64 × (Nat → Int32) × (Nat → Int32) × (Nat → Int32)), f_X10_sign N v1 v2 m_drawers_full m_drawers_partA m_drawers_partB m_modulus_step m_modulus_width m_modulus_slant m_modulus_square_a m_modulus_square_b m_factors_count m_factors_threes m_factors_unit m_factors_primeA m_factors_primeB m_factors_norms m_factors_euclid_count m_factors_euclid_last_a m_factors_euclid_last_b m_factors_euclid_lastOfFirst_a m_factors_euclid_lastOfFirst_b m_factors_euclid_lastOfSecond_a m_factors_euclid_lastOfSecond_b m_factors_euclid_next_a m_factors_euclid_next_b m_factors_euclid_nextOfFirst_a m_factors_euclid_nextOfFirst_b m_factors_euclid_nextOfSecond_a m_factors_euclid_nextOfSecond_b m_factors_euclid_q_a m_factors_euclid_q_b m_factors_euclid_quotientA m_factors_euclid_quotientB m_factors_left_a m_factors_left_b m_factors_found_a m_factors_found_b m_factors_product_a m_factors_product_b m_one_a m_one_b m_two_a m_two_b m_four_a m_four_b m_out_a m_out_b m_spare_a m_spare_b = some y ∧ f_X11_sign N v1 v2 m_ra m_rb m_threes m_primes m_ones m_unit m_boxWide m_boxHigh m_boxStep m_has m_first m_second m_pa m_pb m_pNorm = some z ∧ y.1 = z.1 ∧ kR m_drawers_full m_drawers_kept m_drawers_partA m_drawers_partB m_drawers_keptA m_drawers_keptB m_drawers_keptFull m_tape_size m_tape_bytes m_primes_count m_primes_primeA m_primes_primeB m_taped m_tape m_has m_keptHas m_first m_second m_keptFirst m_keptSecond m_states m_la0 m_lb0 m_listed := by
  have hR0 := hR
  obtain ⟨⟨dr, hD⟩, hK, hT, hP⟩ := hR
  unfold f_X10_sign f_X11_sign
  rcases dr_two dr v1 v2 with h | ⟨i, j, hi, hj, rfl, rfl, h | ⟨a, b, c, d, e1, e2⟩⟩
  · rw [s_two_out h, Option.bind_some, if_neg jm1]
    rcases s_both_out h with h' | ⟨h', h''⟩
    · rw [h', Option.bind_some, if_pos rfl]
      exact ⟨_, _, rfl, rfl, rfl, hR0⟩
    · rw [h', Option.bind_some, if_neg j1, h'', Option.bind_some, if_pos rfl]
      exact ⟨_, _, rfl, rfl, rfl, hR0⟩
  · rw [(dr_in hi).2, (dr_in hj).2, Option.bind_some, if_neg j1, Option.bind_some, if_neg j1, s_hasBoth hD hi hj, isome_and h, s_two_none hD hi hj h, Option.bind_some, if_neg jm2, Option.bind_some]
    exact ⟨_, _, rfl, rfl, rfl, hR0⟩
  · obtain ⟨hn1, -, -, f1, g1⟩ := hD.num hi e1
    obtain ⟨hn2, -, -, f2, g2⟩ := hD.num hj e2
    rw [(dr_in hi).2, (dr_in hj).2, Option.bind_some, if_neg j1, Option.bind_some, if_neg j1, s_hasBoth hD hi hj, isome_and1 e1 e2, s_two hD hi hj e1 e2, Option.bind_some, if_pos rfl, Option.bind_some, if_neg (show ¬ (if true = true then (1 : Int32) else 0) = 0 by decide), s_hasSign hD hj e2, Option.bind_some]
    simp only []
    rw [s_bears hn2, Option.bind_some]
    by_cases hs : hsb c d = true
    · rw [if_pos hs, if_neg j1, if_neg j1]
      obtain ⟨r, rC, rR⟩ := s_signs hN (z := (a, b)) hn1.eb hn2 (hsb_ne hs)
      obtain ⟨y, ey⟩ := rC m_modulus_step m_modulus_width m_modulus_slant m_modulus_square_a m_modulus_square_b m_factors_primeA m_factors_primeB m_factors_norms m_factors_euclid_count m_factors_euclid_last_a m_factors_euclid_last_b m_factors_euclid_lastOfFirst_a m_factors_euclid_lastOfFirst_b m_factors_euclid_lastOfSecond_a m_factors_euclid_lastOfSecond_b m_factors_euclid_next_a m_factors_euclid_next_b m_factors_euclid_nextOfFirst_a m_factors_euclid_nextOfFirst_b m_factors_euclid_nextOfSecond_a m_factors_euclid_nextOfSecond_b m_factors_euclid_q_a m_factors_euclid_q_b m_factors_euclid_quotientA m_factors_euclid_quotientB m_factors_found_a m_factors_found_b m_factors_product_a m_factors_product_b m_four_a m_four_b m_out_a m_out_b m_spare_a m_spare_b
      obtain ⟨th, m, t, u, pa', pb', pn', e3, e4⟩ := rR m_pa m_pb m_pNorm
      obtain ⟨y', e4⟩ := e4 (lI c) (lI d) m_boxWide m_boxHigh m_boxStep
      have e4' : f_X11_signNow N (lI a) (lI b) (lI c) (lI d) m m_boxWide m_boxHigh m_boxStep pa' pb' = some (r, y') := e4
      unfold f_X11_signOf
      simp only [dr_cl hi, dr_n0 hi, dr_8 hi, dr_cl hj, dr_n0 hj, dr_8 hj, or_self, if_false, f1, g1, f2, g2, iI_l hn1.b32.1, iI_l hn1.b32.2, iI_l hn2.b32.1, iI_l hn2.b32.2]
      rw [e3, Option.bind_some]
      simp only []
      rw [e4', Option.bind_some, Option.bind_some]
      have ey' : f_X10_signOf N m_modulus_step m_modulus_width m_modulus_slant m_modulus_square_a m_modulus_square_b m_factors_primeA m_factors_primeB m_factors_norms m_factors_euclid_count m_factors_euclid_last_a m_factors_euclid_last_b m_factors_euclid_lastOfFirst_a m_factors_euclid_lastOfFirst_b m_factors_euclid_lastOfSecond_a m_factors_euclid_lastOfSecond_b m_factors_euclid_next_a m_factors_euclid_next_b m_factors_euclid_nextOfFirst_a m_factors_euclid_nextOfFirst_b m_factors_euclid_nextOfSecond_a m_factors_euclid_nextOfSecond_b m_factors_euclid_q_a m_factors_euclid_q_b m_factors_euclid_quotientA m_factors_euclid_quotientB m_factors_found_a m_factors_found_b m_factors_product_a m_factors_product_b m_four_a m_four_b m_out_a m_out_b m_spare_a m_spare_b (lI a) (lI b) (lI c) (lI d) = some (r, y) := ey
      rw [ey', Option.bind_some]
      exact ⟨_, _, rfl, rfl, rfl, hR0⟩
    · rw [if_neg hs, if_pos rfl, if_pos rfl]
      exact ⟨_, _, rfl, rfl, rfl, hR0⟩
