/-! ===== written, told ===== -/
def spOK (N : Nat) (a b : Int) (L : List (Int × Int)) (t u : Nat) : Prop := ∀ (A B nn : Nat → Int64) (c : Int32) (z1 z2 z3 z4 z5 z6 z7 z8 z9 z10 z11 z12 z13 z14 : Int64) (z15 z16 : Nat → Int64) (fa fb pa pb : Int64), ∃ (A' B' n' : Nat → Int64) (z : Int32 × Int64 × Int64 × Int64 × Int64 × Int64 × Int64 × Int64 × Int64 × Int64 × Int64 × Int64 × Int64 × Int64 × Int64 × (Nat → Int64) × (Nat → Int64) × Int64 × Int64 × Int64 × Int64 × Int64 × Int64), rpC L A' B' n' ∧ f_X2_spell N A B nn c z1 z2 z3 z4 z5 z6 z7 z8 z9 z10 z11 z12 z13 z14 z15 z16 fa fb pa pb (lI a) (lI b) = some (nI L.length, nI t, nI u, A', B', n', z)
def wrOK (N : Nat) (a b : Int) (L : List (Int × Int)) (t u : Nat) : Prop := ∀ (pa pb pn : Nat → Int32), ∃ (th : Int32) (pa' pb' pn' : Nat → Int32), rpR L pa' pb' pn' ∧ f_X11_writes N (lI a) (lI b) pa pb pn = some (lI a, lI b, th, nI L.length, nI t, nI u, pa', pb', pn')
theorem s_fac2 {N : Nat} (hN : 1048576 ≤ N) {a b : Int} (hn : kNum a b) (h0 : (a, b) ≠ (0, 0)) : ∃ (L : List (Int × Int)) (t u : Nat), stL L ∧ (∀ y, y ∈ L → eb y) ∧ L.length ≤ 14 ∧ t < 20 ∧ u < 6 ∧ eit u (em (epr L) (e3 t)) = (a, b) ∧ spOK N a b L t u ∧ wrOK N a b L t u := s_fac hN (n := (a, b)) hn h0
theorem ne00 {a b : Int} (h : ¬ (a = 0 ∧ b = 0)) : (a, b) ≠ (0, 0) := fun z => h ⟨congrArg Prod.fst z, congrArg Prod.snd z⟩
theorem q_written (N : Nat) (hN : 1048576 ≤ N) (v1 v2 v3 : Int32) (m_drawers_full m_drawers_kept : Int32) (m_drawers_partA m_drawers_partB m_drawers_keptA m_drawers_keptB m_drawers_keptFull : Nat → Int32) (m_tape_size : Int32) (m_tape_bytes : Nat → Int32) (m_factors_count m_factors_threes m_factors_unit : Int32) (m_factors_primeA m_factors_primeB m_factors_norms : Nat → Int64) (m_factors_euclid_count : Int32) (m_factors_euclid_last_a m_factors_euclid_last_b m_factors_euclid_lastOfFirst_a m_factors_euclid_lastOfFirst_b m_factors_euclid_lastOfSecond_a m_factors_euclid_lastOfSecond_b m_factors_euclid_next_a m_factors_euclid_next_b m_factors_euclid_nextOfFirst_a m_factors_euclid_nextOfFirst_b m_factors_euclid_nextOfSecond_a m_factors_euclid_nextOfSecond_b m_factors_euclid_q_a m_factors_euclid_q_b : Int64) (m_factors_euclid_quotientA m_factors_euclid_quotientB : Nat → Int64) (m_factors_left_a m_factors_left_b m_factors_found_a m_factors_found_b m_factors_product_a m_factors_product_b : Int64) (m_primes_count : Int32) (m_primes_primeA m_primes_primeB : Nat → Int32) (m_one_a m_one_b m_out_a m_out_b : Int64) (m_taped m_states : Int32) (m_ra m_rb : Int64) (m_threes m_primes m_ones m_unit m_listed : Int32) (m_tape m_has m_keptHas m_first m_second m_keptFirst m_keptSecond m_pa m_pb m_pNorm m_la0 m_lb0 : Nat → Int32) (hR : kR m_drawers_full m_drawers_kept m_drawers_partA m_drawers_partB m_drawers_keptA m_drawers_keptB m_drawers_keptFull m_tape_size m_tape_bytes m_primes_count m_primes_primeA m_primes_primeB m_taped m_tape m_has m_keptHas m_first m_second m_keptFirst m_keptSecond m_states m_la0 m_lb0 m_listed) : ∃ (y : Int32 × Int32 × Int32 × Int32 × (Nat → Int64) × (Nat → Int64) × (Nat → Int64) × Int32 × Int64 × Int64 × Int64 × Int64 × Int64 × Int64 × Int64 × Int64 × Int64 × Int64 × Int64 × Int64 × Int64 × Int64 × (Nat → Int64) × (Nat → Int64) × Int64 × Int64 × Int64 × Int64 × Int64 × Int64 × Int64 × Int64 × Int64 × Int64) (z : Int32 × Int64 × Int64 × Int32 × Int32 × Int32 × Int32 × (Nat → Int32) × (Nat → Int32) × (Nat → Int32)), f_X10_written N v1 v2 v3 m_drawers_full m_drawers_partA m_drawers_partB m_factors_count m_factors_threes m_factors_unit m_factors_primeA m_factors_primeB m_factors_norms m_factors_euclid_count m_factors_euclid_last_a m_factors_euclid_last_b m_factors_euclid_lastOfFirst_a m_factors_euclid_lastOfFirst_b m_factors_euclid_lastOfSecond_a m_factors_euclid_lastOfSecond_b m_factors_euclid_next_a m_factors_euclid_next_b m_factors_euclid_nextOfFirst_a m_factors_euclid_nextOfFirst_b m_factors_euclid_nextOfSecond_a m_factors_euclid_nextOfSecond_b m_factors_euclid_q_a m_factors_euclid_q_b m_factors_euclid_quotientA m_factors_euclid_quotientB m_factors_left_a m_factors_left_b m_factors_found_a m_factors_found_b m_factors_product_a m_factors_product_b m_one_a m_one_b m_out_a m_out_b = some y ∧ f_X11_written N v1 v2 v3 m_ra m_rb m_threes m_primes m_ones m_unit m_has m_first m_second m_pa m_pb m_pNorm = some z ∧ y.1 = z.1 ∧ kR m_drawers_full m_drawers_kept m_drawers_partA m_drawers_partB m_drawers_keptA m_drawers_keptB m_drawers_keptFull m_tape_size m_tape_bytes m_primes_count m_primes_primeA m_primes_primeB m_taped m_tape m_has m_keptHas m_first m_second m_keptFirst m_keptSecond m_states m_la0 m_lb0 m_listed := by
  have hR0 := hR
  obtain ⟨⟨dr, hD⟩, hK, hT, hP⟩ := hR
  unfold f_X10_written f_X11_written
  rcases dr_cases v1 with h1 | ⟨i, hi, rfl⟩
  · simp only [f_X0_has, (dr_out h1).1, (dr_out h1).2, Option.bind_some, z00, if_true]
    exact ⟨_, _, rfl, rfl, rfl, hR0⟩
  cases e1 : dr i with
  | none =>
    rw [s_has0 hD hi e1, Option.bind_some, if_pos rfl]
    simp only [(dr_in hi).2, hD.hasN hi e1, Option.bind_some, z10, if_false, dr_cl hi, dr_n0 hi, dr_8 hi, or_self, if_true]
    exact ⟨_, _, rfl, rfl, rfl, hR0⟩
  | some p =>
    obtain ⟨c, d⟩ := p
    obtain ⟨hn, -, -, f1, g1⟩ := hD.num hi e1
    obtain ⟨w, hw, rfl⟩ := iI_of v3
    have hlt : (iI w < 0) = (w < 0) := propext (iI_lt0 hw)
    have hle : (iI w ≤ 2) = (w ≤ 2) := propext (iI_le hw (b := 2) ⟨by decide, by decide⟩)
    have hin : f_X11_in (iI w).toInt64 0 2 = some (if 0 ≤ w ∧ w ≤ 2 then 1 else 0) := s_in32 hw (l := 0) (h := 2) ⟨by decide, by decide⟩ ⟨by decide, by decide⟩
    rw [s_has1 hD hi e1, Option.bind_some, if_neg j1, s_load hD hi e1]
    simp only [(dr_in hi).2, hD.has1 hi e1, Option.bind_some, z10, if_false, dr_cl hi, dr_n0 hi, dr_8 hi, or_self, s_isNothing hD hi e1, hlt, hle, hin, s_isNought hn.b64.1 hn.b64.2, f1, g1, iI_l hn.b32.1, iI_l hn.b32.2]
    by_cases ck : v2 < -1
    · rw [if_pos ck]
      simp only [ck, if_true]
      by_cases c0 : c = 0 ∧ d = 0
      · rw [if_pos c0, if_neg j1]
        exact ⟨_, _, rfl, rfl, rfl, hR0⟩
      · rw [if_neg c0, if_pos rfl]
        exact ⟨_, _, rfl, rfl, rfl, hR0⟩
    rw [if_neg ck]
    by_cases cw : 0 ≤ w ∧ w ≤ 2
    · rw [if_neg (show ¬ w < 0 by omega), if_pos cw.2]
      by_cases c0 : c = 0 ∧ d = 0
      · simp only [if_pos c0, if_neg j1]
        exact ⟨_, _, rfl, rfl, rfl, hR0⟩
      · simp only [if_neg c0, if_neg ck, if_pos cw, if_neg j1, if_true]
        obtain ⟨L, t, u, s1, s2, s3, s4, s5, s6, C, R⟩ := s_fac2 hN hn (ne00 c0)
        obtain ⟨A', B', n', z, r1, e2⟩ := C m_factors_primeA m_factors_primeB m_factors_norms m_factors_euclid_count m_factors_euclid_last_a m_factors_euclid_last_b m_factors_euclid_lastOfFirst_a m_factors_euclid_lastOfFirst_b m_factors_euclid_lastOfSecond_a m_factors_euclid_lastOfSecond_b m_factors_euclid_next_a m_factors_euclid_next_b m_factors_euclid_nextOfFirst_a m_factors_euclid_nextOfFirst_b m_factors_euclid_nextOfSecond_a m_factors_euclid_nextOfSecond_b m_factors_euclid_q_a m_factors_euclid_q_b m_factors_euclid_quotientA m_factors_euclid_quotientB m_factors_found_a m_factors_found_b m_factors_product_a m_factors_product_b
        obtain ⟨th, pa', pb', pn', r2, e3'⟩ := R m_pa m_pb m_pNorm
        rw [e2, e3', Option.bind_some, Option.bind_some]
        have w3 : w = 0 ∨ w = 1 ∨ w = 2 := by omega
        rcases m1_cases ck with ⟨rfl, -⟩ | ⟨c1, c2, k, hk, rfl⟩
        · rw [if_pos rfl, if_pos rfl]
          rcases w3 with rfl | rfl | rfl
          · rw [if_pos (show iI 0 = 0 by decide), if_pos (show iI 0 = 0 by decide)]
            exact ⟨_, _, rfl, rfl, rfl, hR0⟩
          · rw [if_neg (show ¬ iI 1 = 0 by decide), if_neg (show ¬ iI 1 = 0 by decide), if_pos (show iI 1 = 1 by decide), if_pos (show iI 1 = 1 by decide)]
            exact ⟨_, _, rfl, rfl, rfl, hR0⟩
          · rw [if_neg (show ¬ iI 2 = 0 by decide), if_neg (show ¬ iI 2 = 0 by decide), if_neg (show ¬ iI 2 = 1 by decide), if_neg (show ¬ iI 2 = 1 by decide)]
            exact ⟨_, _, rfl, rfl, rfl, hR0⟩
        · rw [if_neg c1, if_neg c1]
          by_cases c3 : k < L.length
          · have lt : nI k < nI L.length := nI_lt c3 (by omega)
            have hr := r2 k c3
            have ebk := s2 _ (List.getElem_mem c3)
            have o := nI_in (show k < 40 by omega) (by decide)
            rw [if_pos lt, if_pos lt]
            simp only []
            rw [s_load2 r1 c3 s3, Option.bind_some]
            unfold f_X10_partOrNorm f_X10_part
            simp only [s_norm, Option.bind_some, lI_i]
            rcases w3 with rfl | rfl | rfl
            · rw [if_neg (show ¬ iI 0 = 2 by decide), if_pos (show iI 0 = 0 by decide), if_pos (show iI 0 = 0 by decide), if_neg o, nI_clamp (by omega)]
              exact ⟨_, _, rfl, rfl, hr.1.symm, hR0⟩
            · rw [if_neg (show ¬ iI 1 = 2 by decide), if_neg (show ¬ iI 1 = 0 by decide), if_neg (show ¬ iI 1 = 0 by decide), if_pos (show iI 1 = 1 by decide), if_neg o, nI_clamp (by omega)]
              exact ⟨_, _, rfl, rfl, hr.2.1.symm, hR0⟩
            · rw [if_pos (show iI 2 = 2 by decide), if_neg (show ¬ iI 2 = 0 by decide), if_neg (show ¬ iI 2 = 1 by decide), if_neg o, nI_clamp (by omega)]
              exact ⟨_, _, rfl, rfl, hr.2.2.symm, hR0⟩
          · have lt : ¬ nI k < nI L.length := nI_nlt (by omega) (by omega)
            rw [if_neg lt, if_neg lt]
            exact ⟨_, _, rfl, rfl, rfl, hR0⟩
    · have cA : ∀ {α : Type} {P R : Option α}, (if w < 0 then P else if w ≤ 2 then R else P) = P := by
        intro α P R
        by_cases c1 : w < 0
        · rw [if_pos c1]
        · rw [if_neg c1, if_neg (by omega)]
      rw [cA]
      by_cases c0 : c = 0 ∧ d = 0
      · simp only [if_pos c0, if_neg j1]
        exact ⟨_, _, rfl, rfl, rfl, hR0⟩
      · simp only [if_neg c0, if_neg ck, if_neg cw, if_true]
        exact ⟨_, _, rfl, rfl, rfl, hR0⟩
