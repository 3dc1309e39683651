/-! ===== primeAt ===== -/
theorem q_primeAt (N : Nat) (hN : 1048576 ≤ N) (v1 v2 : Int32) (m_drawers_full m_drawers_kept : Int32) (m_drawers_partA m_drawers_partB m_drawers_keptA m_drawers_keptB m_drawers_keptFull : Nat → Int32) (m_tape_size : Int32) (m_tape_bytes : Nat → Int32) (m_primes_count : Int32) (m_primes_primeA m_primes_primeB : Nat → Int32) (m_primes_found_a m_primes_found_b m_out_a m_out_b : Int64) (m_taped m_states m_listed : Int32) (m_tape m_has m_keptHas m_first m_second m_keptFirst m_keptSecond m_la0 m_lb0 : Nat → Int32) (hR : kR m_drawers_full m_drawers_kept m_drawers_partA m_drawers_partB m_drawers_keptA m_drawers_keptB m_drawers_keptFull m_tape_size m_tape_bytes m_primes_count m_primes_primeA m_primes_primeB m_taped m_tape m_has m_keptHas m_first m_second m_keptFirst m_keptSecond m_states m_la0 m_lb0 m_listed) : ∃ (y : Int32 × Int32 × (Nat → Int32) × (Nat → Int32) × Int64 × Int64 × Int64 × Int64) (z : Int32), f_X10_primeAt N v1 v2 m_primes_count m_primes_primeA m_primes_primeB m_primes_found_a m_primes_found_b m_out_a m_out_b = some y ∧ f_X11_primeAt v1 v2 m_listed m_la0 m_lb0 = some z ∧ y.1 = z ∧ kR m_drawers_full m_drawers_kept m_drawers_partA m_drawers_partB m_drawers_keptA m_drawers_keptB m_drawers_keptFull m_tape_size m_tape_bytes y.2.1 y.2.2.1 y.2.2.2.1 m_taped m_tape m_has m_keptHas m_first m_second m_keptFirst m_keptSecond m_states m_la0 m_lb0 m_listed := by
  have hR0 := hR
  obtain ⟨hD, hK, hT, hP⟩ := hR
  obtain ⟨ra', rb', A', B', e1, hA, hL, hl, hP'⟩ := s_find hN hP m_primes_found_a m_primes_found_b
  subst hl
  unfold f_X10_primeAt f_X11_primeAt
  rw [e1]
  by_cases c0 : v1 < -1
  · rw [if_neg (by rw [Int32.not_le]; exact c0), if_pos c0]
    exact ⟨_, _, rfl, rfl, rfl, hR0⟩
  · rw [if_pos (by rw [← Int32.not_lt]; exact c0), if_neg c0, Option.bind_some]
    simp only []
    rcases m1_cases c0 with ⟨rfl, -⟩ | ⟨c1, c2, k, hk, rfl⟩
    · rw [if_pos rfl, if_neg (by rw [pl_len]; decide), if_pos (by decide)]
      unfold f_X11_primeAt_32
      rw [if_pos rfl]
      exact ⟨_, _, rfl, rfl, rfl, hD, hK, hT, hP'⟩
    · rw [if_neg c1]
      by_cases c3 : k < 303
      · have ng : ¬ nI kPL.length ≤ nI k := nI_ge (by rw [pl_len]; exact c3) (by rw [pl_len]; decide)
        rw [if_neg ng, if_neg ng, if_neg c2]
        obtain ⟨w, hw, rfl⟩ := iI_of v2
        have hlt : (iI w < 0) = (w < 0) := propext (iI_lt0 hw)
        have hle : (iI w ≤ 2) = (w ≤ 2) := propext (iI_le hw (b := 2) ⟨by decide, by decide⟩)
        have hin : f_X11_in (iI w).toInt64 0 2 = some (if 0 ≤ w ∧ w ≤ 2 then 1 else 0) := s_in32 hw (l := 0) (h := 2) ⟨by decide, by decide⟩ ⟨by decide, by decide⟩
        rw [hin, Option.bind_some]
        simp only [hlt, hle]
        by_cases cw : 0 ≤ w ∧ w ≤ 2
        · have ll := hL k (by rw [pl_len]; exact c3)
          have sm := kPL_small k c3
          rw [if_neg (by omega), if_pos cw.2, if_pos cw, if_neg j1, s_pload hA c3, Option.bind_some]
          unfold f_X10_partOrNorm f_X11_primeAt_32 f_X10_part
          rw [if_neg c1]
          have h400 : (nI k < 0 ∨ 400 ≤ k) = False := eq_false (fun z => by
            rcases z with z | z
            · exact c2 z
            · omega)
          simp only [h400, if_false, nI_clamp (show k < 2 ^ 31 by omega), ll.1, ll.2, s_norm, lI_i, iI_l (show b32 (kPL.getD k (0, 0)).1 from ⟨by omega, by omega⟩), iI_l (show b32 (kPL.getD k (0, 0)).2 from ⟨by omega, by omega⟩), s_normOf, Option.bind_some]
          have w3 : w = 0 ∨ w = 1 ∨ w = 2 := by omega
          rcases w3 with rfl | rfl | rfl
          · rw [if_neg (by decide), if_pos (by decide), if_pos (by decide)]
            exact ⟨_, _, rfl, rfl, rfl, hD, hK, hT, hP'⟩
          · rw [if_neg (by decide), if_neg (by decide), if_neg (by decide), if_pos (by decide)]
            exact ⟨_, _, rfl, rfl, rfl, hD, hK, hT, hP'⟩
          · rw [if_pos (by decide), if_neg (by decide), if_neg (by decide)]
            exact ⟨_, _, rfl, rfl, rfl, hD, hK, hT, hP'⟩
        · have cA : ∀ {α : Type} {P R : Option α}, (if w < 0 then P else if w ≤ 2 then R else P) = P := by
            intro α P R
            by_cases c1 : w < 0
            · rw [if_pos c1]
            · rw [if_neg c1, if_neg (by omega)]
          rw [cA, if_neg cw, if_pos rfl]
          exact ⟨_, _, rfl, rfl, rfl, hD, hK, hT, hP'⟩
      · have ge : nI kPL.length ≤ nI k := nI_le (by rw [pl_len]; omega) (by omega)
        rw [if_pos ge, if_pos ge]
        exact ⟨_, _, rfl, rfl, rfl, hD, hK, hT, hP'⟩
