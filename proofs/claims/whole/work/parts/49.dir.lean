/-! ===== direct ===== -/
theorem third_k {n : Nat} (h1 : 1 ≤ n) (h2 : n ≤ 300000000) : (lI (n : Int) - 1) / 3 = lI (((n - 1) / 3 : Nat) : Int) ∧ (iI (n : Int) - 1) / 3 = iI (((n - 1) / 3 : Nat) : Int) := by
  have e : (n : Int) - 1 = ((n - 1 : Nat) : Int) := by omega
  constructor
  · rw [l1, lI_sub, e, l3, show (3 : Int) = ((3 : Nat) : Int) from rfl, l_div (by omega) (by decide)]
  · rw [i1, iI_sub, e, i3, show (3 : Int) = ((3 : Nat) : Int) from rfl, i_div (by omega) (by decide)]
theorem q_direct (N : Nat) (hN : 1048576 ≤ N) (v1 v2 v3 : Int32) (m_drawers_full m_drawers_kept : Int32) (m_drawers_partA m_drawers_partB m_drawers_keptA m_drawers_keptB m_drawers_keptFull : Nat → Int32) (m_tape_size : Int32) (m_tape_bytes : Nat → Int32) (m_modulus_step m_modulus_width m_modulus_slant m_modulus_square_a m_modulus_square_b : Int64) (m_factors_count m_factors_threes m_factors_unit : Int32) (m_factors_primeA m_factors_primeB m_factors_norms : Nat → Int64) (m_factors_euclid_count : Int32) (m_factors_euclid_last_a m_factors_euclid_last_b m_factors_euclid_lastOfFirst_a m_factors_euclid_lastOfFirst_b m_factors_euclid_lastOfSecond_a m_factors_euclid_lastOfSecond_b m_factors_euclid_next_a m_factors_euclid_next_b m_factors_euclid_nextOfFirst_a m_factors_euclid_nextOfFirst_b m_factors_euclid_nextOfSecond_a m_factors_euclid_nextOfSecond_b m_factors_euclid_q_a m_factors_euclid_q_b : Int64) (m_factors_euclid_quotientA m_factors_euclid_quotientB : Nat → Int64) (m_factors_left_a m_factors_left_b m_factors_found_a m_factors_found_b m_factors_product_a m_factors_product_b : Int64) (m_primes_count : Int32) (m_primes_primeA m_primes_primeB : Nat → Int32) (m_one_a m_one_b m_two_a m_two_b m_out_a m_out_b : Int64) (m_taped m_states : Int32) (m_ra m_rb m_boxWide m_boxHigh m_boxStep : Int64) (m_listed : Int32) (m_tape m_has m_keptHas m_first m_second m_keptFirst m_keptSecond m_la0 m_lb0 : Nat → Int32) (hR : kR m_drawers_full m_drawers_kept m_drawers_partA m_drawers_partB m_drawers_keptA m_drawers_keptB m_drawers_keptFull m_tape_size m_tape_bytes m_primes_count m_primes_primeA m_primes_primeB m_taped m_tape m_has m_keptHas m_first m_second m_keptFirst m_keptSecond m_states m_la0 m_lb0 m_listed) : ∃ (y : Int32 × Int64 × Int64 × Int64 × Int64 × Int64 × Int32 × Int32 × Int32 × (Nat → Int64) × (Nat → Int64) × (Nat → Int64) × Int32 × Int64 × Int64 × Int64 × Int64 × Int64 × Int64 × Int64 × Int64 × Int64 × Int64 × Int64 × Int64 × Int64 × Int64 × (Nat → Int64) × (Nat → Int64) × Int64 × Int64 × Int64 × Int64 × Int64 × Int64 × Int64 × Int64 × Int64 × Int64 × Int64 × Int64) (z : Int32 × Int64 × Int64 × Int64 × Int64 × Int64), f_X10_direct N v1 v2 v3 m_drawers_full m_drawers_partA m_drawers_partB m_modulus_step m_modulus_width m_modulus_slant m_modulus_square_a m_modulus_square_b m_factors_count m_factors_threes m_factors_unit m_factors_primeA m_factors_primeB m_factors_norms m_factors_euclid_count m_factors_euclid_last_a m_factors_euclid_last_b m_factors_euclid_lastOfFirst_a m_factors_euclid_lastOfFirst_b m_factors_euclid_lastOfSecond_a m_factors_euclid_lastOfSecond_b m_factors_euclid_next_a m_factors_euclid_next_b m_factors_euclid_nextOfFirst_a m_factors_euclid_nextOfFirst_b m_factors_euclid_nextOfSecond_a m_factors_euclid_nextOfSecond_b m_factors_euclid_q_a m_factors_euclid_q_b m_factors_euclid_quotientA m_factors_euclid_quotientB m_factors_left_a m_factors_left_b m_factors_found_a m_factors_found_b m_factors_product_a m_factors_product_b m_one_a m_one_b m_two_a m_two_b m_out_a m_out_b = some y ∧ f_X11_direct N v1 v2 v3 m_ra m_rb m_boxWide m_boxHigh m_boxStep m_has m_first m_second = some z ∧ y.1 = z.1 ∧ kR m_drawers_full m_drawers_kept m_drawers_partA m_drawers_partB m_drawers_keptA m_drawers_keptB m_drawers_keptFull m_tape_size m_tape_bytes m_primes_count m_primes_primeA m_primes_primeB m_taped m_tape m_has m_keptHas m_first m_second m_keptFirst m_keptSecond m_states m_la0 m_lb0 m_listed := by
  have hR0 := hR
  obtain ⟨⟨dr, hD⟩, hK, hT, hP⟩ := hR
  unfold f_X10_direct f_X11_direct
  obtain ⟨w, hw, rfl⟩ := iI_of v3
  have hlt : (iI w < 0) = (w < 0) := propext (iI_lt0 hw)
  have hle : (iI w ≤ 1) = (w ≤ 1) := propext (iI_le hw (b := 1) ⟨by decide, by decide⟩)
  simp only [hlt, hle]
  have cA : ∀ {α : Type} {P R : Option α}, ¬ (0 ≤ w ∧ w ≤ 1) → (if w < 0 then P else if w ≤ 1 then R else P) = P := by
    intro α P R h
    by_cases c1 : w < 0
    · rw [if_pos c1]
    · rw [if_neg c1, if_neg (by omega)]
  have cB : ∀ {α : Type} {P R : Option α}, (0 ≤ w ∧ w ≤ 1) → (if w < 0 then P else if w ≤ 1 then R else P) = R := by
    intro α P R h
    rw [if_neg (by omega), if_pos h.2]
  rcases dr_two dr v1 v2 with h | ⟨i, j, hi, hj, rfl, rfl, h | ⟨a, b, c, d, e1, e2⟩⟩
  · rw [s_areD_out h, Option.bind_some, if_pos rfl]
    by_cases cw : 0 ≤ w ∧ w ≤ 1
    · rw [cB cw, s_two_out h, Option.bind_some, if_neg jm1]
      exact ⟨_, _, rfl, rfl, rfl, hR0⟩
    · rw [cA cw]
      exact ⟨_, _, rfl, rfl, rfl, hR0⟩
  · rw [s_areD hi hj hw, Option.bind_some, s_hasBoth hD hi hj, isome_and h]
    by_cases cw : 0 ≤ w ∧ w ≤ 1
    · rw [cB cw, s_two_none hD hi hj h, Option.bind_some, if_neg jm2, if_pos cw, if_neg j1, Option.bind_some]
      exact ⟨_, _, rfl, rfl, rfl, hR0⟩
    · rw [cA cw, if_neg cw, if_pos rfl]
      exact ⟨_, _, rfl, rfl, rfl, hR0⟩
  · obtain ⟨hn1, -, -, f1, g1⟩ := hD.num hi e1
    obtain ⟨hn2, -, -, f2, g2⟩ := hD.num hj e2
    have hx2 := hn2.eb
    rw [s_areD hi hj hw, Option.bind_some, s_hasBoth hD hi hj, isome_and1 e1 e2]
    by_cases cw : 0 ≤ w ∧ w ≤ 1
    · rw [cB cw, s_two hD hi hj e1 e2, Option.bind_some, if_pos rfl, if_pos cw, if_neg j1, Option.bind_some]
      simp only [if_neg j1, if_true, dr_cl hi, dr_n0 hi, dr_8 hi, dr_cl hj, dr_n0 hj, dr_8 hj, or_self, if_false, f1, g1, f2, g2, iI_l hn1.b32.1, iI_l hn1.b32.2, iI_l hn2.b32.1, iI_l hn2.b32.2]
      rw [s_isOfThree (eb_sum hx2), s_isThree (eb_sum hx2), Option.bind_some, Option.bind_some]
      obtain ⟨v, hv, k1, k2⟩ := s_ipn hN hn2
      obtain ⟨y, k2⟩ := k2 m_factors_count m_factors_threes m_factors_unit m_factors_primeA m_factors_primeB m_factors_norms m_factors_euclid_count m_factors_euclid_last_a m_factors_euclid_last_b m_factors_euclid_lastOfFirst_a m_factors_euclid_lastOfFirst_b m_factors_euclid_lastOfSecond_a m_factors_euclid_lastOfSecond_b m_factors_euclid_next_a m_factors_euclid_next_b m_factors_euclid_nextOfFirst_a m_factors_euclid_nextOfFirst_b m_factors_euclid_nextOfSecond_a m_factors_euclid_nextOfSecond_b m_factors_euclid_q_a m_factors_euclid_q_b m_factors_euclid_quotientA m_factors_euclid_quotientB m_factors_left_a m_factors_left_b m_factors_found_a m_factors_found_b m_factors_product_a m_factors_product_b
      rw [k1, k2, Option.bind_some, Option.bind_some]
      by_cases c3 : (c + d) % 3 = 0
      · rw [if_pos c3, if_neg j1, if_neg j1]
        rcases hv with rfl | ⟨rfl, -⟩
        · rw [if_pos rfl]
          exact ⟨_, _, rfl, rfl, rfl, hR0⟩
        · rw [if_neg j1]
          exact ⟨_, _, rfl, rfl, rfl, hR0⟩
      · rw [if_neg c3, if_pos rfl, if_pos rfl]
        rcases hv with rfl | ⟨rfl, h0⟩
        · rw [if_pos rfl, if_pos rfl]
          exact ⟨_, _, rfl, rfl, rfl, hR0⟩
        · rw [if_neg j1, if_neg j1]
          obtain ⟨H, W, S, hB, k3, k4⟩ := s_box hN hx2 h0
          obtain ⟨n, hnn⟩ := en_nat (c, d)
          have p1 := en_pos h0
          have p2 : en (c, d) ≤ 300000000 := hx2
          have hnn' : nrm c d = n := hnn
          obtain ⟨t1, t2⟩ := third_k (n := n) (by omega) (by omega)
          obtain ⟨⟨sq, r1⟩, r2⟩ := s_raise hN hB hx2 (z := (a, b)) hn1.eb (k := (n - 1) / 3) (by omega)
          have r1' : f_X4_raise N (lI (((n - 1) / 3 : Nat) : Int)) (lI H) (lI W) (lI S) (lI a) (lI b) = _ := r1
          have r2' : f_X11_powers N (lI a) (lI b) (iI (((n - 1) / 3 : Nat) : Int)) (lI W) (lI H) (lI S) = _ := r2
          rw [k3, k4, Option.bind_some, Option.bind_some, s_norm, s_normOf, Option.bind_some, Option.bind_some, hnn', t1, t2, r2', Option.bind_some]
          simp only []
          rw [r1', Option.bind_some]
          obtain ⟨rr, u1, u2⟩ := s_part2 (iI w) (lI (rs H W S (epw (a, b) ((n - 1) / 3))).1) (lI (rs H W S (epw (a, b) ((n - 1) / 3))).2)
          simp only []
          rw [u1, u2, Option.bind_some, Option.bind_some]
          exact ⟨_, _, rfl, rfl, rfl, hR0⟩
    · rw [cA cw, if_neg cw, if_pos rfl]
      exact ⟨_, _, rfl, rfl, rfl, hR0⟩
