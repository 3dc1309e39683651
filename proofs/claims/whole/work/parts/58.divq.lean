/-! ===== divisors ===== -/
theorem s_cAll {N : Nat} (hN : 1048576 ≤ N) {L : List (Int × Int)} {pa pb pn : Nat → Int32} (hr : rpR L pa pb pn) (hb : ∀ y, y ∈ L → eb y) (hl : L.length ≤ 14) {t : Nat} (ht : t < 20) (ra rb : Int64) (th un : Int32) : ∃ (p' q' c' : Int) (d' : Int32), ((f_X11_counts N 3 (nI t) 1 1 1 1).bind fun y34 => f_X11_countsAll_40 N N 0 ra rb th (nI L.length) (nI t) un y34.1 y34.2.1 y34.2.2.1 y34.2.2.2 pa pb pn) = some (ra, rb, th, nI L.length, nI t, un, lI p', lI q', lI c', d', pa, pb, pn) ∧ (foldF (stD false) (rpb t L) (nmv t L) (t + L.length) 0 (1, 1, 1)).1 * (foldF (stD false) (rpb t L) (nmv t L) (t + L.length) 0 (1, 1, 1)).2.1 = p' ∧ (foldF (stD true) (rpb t L) (nmv t L) (t + L.length) 0 (1, 1, 1)).1 * (foldF (stD true) (rpb t L) (nmv t L) (t + L.length) 0 (1, 1, 1)).2.1 = q' ∧ foldF stP (rpb t L) (nmv t L) (t + L.length) 0 1 = c' ∧ foldF stS (rpb t L) (nmv t L) (t + L.length) 0 1 = d' := by
  have b0 : rpb t L (t + 0) = false := by unfold rpb; rw [if_neg (by omega)]; simp
  cases t with
  | zero =>
    obtain ⟨p', q', c', d', e, r1, r2, r3, r4⟩ := ca_loop hN hr hb hl 0 ra rb th (nI 0) un L.length 0 (by omega) (by omega) (Or.inr b0) N (1, 1, 1) (1, 1, 1) 1 1 (by omega)
    refine ⟨p', q', c', d', ?_, ?_, ?_, ?_, ?_⟩
    · unfold f_X11_counts
      rw [if_pos (show nI 0 = 0 from rfl), Option.bind_some]
      exact e
    · rw [Nat.zero_add]; exact r1
    · rw [Nat.zero_add]; exact r2
    · rw [Nat.zero_add]; exact r3
    · rw [Nat.zero_add]; exact r4
  | succ o =>
    obtain ⟨g0, g1, g2, g3⟩ := gr_all (rp := rpb (o + 1) L) (nm := nmv (o + 1) L) (n := 3) (o := o) (i := 0) (by unfold rpb; rw [if_pos (by omega)]; rfl) (by unfold nmv; rw [if_pos (by omega)]) (fun j j1 j2 => by
      constructor
      · unfold rpb; rw [if_pos (by omega)]; simp; omega
      · unfold nmv; rw [if_pos (by omega)])
    obtain ⟨q0, g0⟩ := g0 (1, 1, 1)
    obtain ⟨q1, g1⟩ := g1 (1, 1, 1)
    have sc := s_counts hN 3 1 1 1 1 (o := o) (by omega)
    have sc' : f_X11_counts N 3 (nI (o + 1)) 1 1 1 1 = _ := sc
    obtain ⟨p', q', c', d', e, r1, r2, r3, r4⟩ := ca_loop hN hr hb hl (o + 1) ra rb th (nI (o + 1)) un L.length 0 (by omega) (by omega) (Or.inr b0) N (1 * 1, ((o + 1 : Nat) : Int) + 1, q0) (1 * 1, gs 3 (o + 1), q1) (1 * ((3 - 1) * 3 ^ o)) (if o = 0 then -1 else 0) (by omega)
    rw [Nat.sub_zero] at r1 r2 r3 r4
    refine ⟨p', q', c', d', ?_, ?_, ?_, ?_, ?_⟩
    · rw [sc', Option.bind_some]
      exact e
    · rw [foldF_app, g0, Nat.zero_add]; exact r1
    · rw [foldF_app, g1, Nat.zero_add]; exact r2
    · rw [foldF_app, g2, Nat.zero_add]; exact r3
    · rw [foldF_app, g3, Nat.zero_add]; exact r4
theorem q_divisors (N : Nat) (hN : 1048576 ≤ N) (v1 v2 : Int32) (m_drawers_full m_drawers_kept : Int32) (m_drawers_partA m_drawers_partB m_drawers_keptA m_drawers_keptB m_drawers_keptFull : Nat → Int32) (m_tape_size : Int32) (m_tape_bytes : Nat → Int32) (m_factors_count m_factors_threes m_factors_unit : Int32) (m_factors_primeA m_factors_primeB m_factors_norms : Nat → Int64) (m_factors_euclid_count : Int32) (m_factors_euclid_last_a m_factors_euclid_last_b m_factors_euclid_lastOfFirst_a m_factors_euclid_lastOfFirst_b m_factors_euclid_lastOfSecond_a m_factors_euclid_lastOfSecond_b m_factors_euclid_next_a m_factors_euclid_next_b m_factors_euclid_nextOfFirst_a m_factors_euclid_nextOfFirst_b m_factors_euclid_nextOfSecond_a m_factors_euclid_nextOfSecond_b m_factors_euclid_q_a m_factors_euclid_q_b : Int64) (m_factors_euclid_quotientA m_factors_euclid_quotientB : Nat → Int64) (m_factors_left_a m_factors_left_b m_factors_found_a m_factors_found_b m_factors_product_a m_factors_product_b : Int64) (m_primes_count : Int32) (m_primes_primeA m_primes_primeB : Nat → Int32) (m_one_a m_one_b : Int64) (m_taped m_states : Int32) (m_ra m_rb : Int64) (m_threes m_primes m_ones m_unit : Int32) (m_allParts m_allNorms m_allClasses : Int64) (m_odd m_listed : Int32) (m_tape m_has m_keptHas m_first m_second m_keptFirst m_keptSecond m_pa m_pb m_pNorm m_la0 m_lb0 : Nat → Int32) (hR : kR m_drawers_full m_drawers_kept m_drawers_partA m_drawers_partB m_drawers_keptA m_drawers_keptB m_drawers_keptFull m_tape_size m_tape_bytes m_primes_count m_primes_primeA m_primes_primeB m_taped m_tape m_has m_keptHas m_first m_second m_keptFirst m_keptSecond m_states m_la0 m_lb0 m_listed) : ∃ (y : Int64 × Int32 × Int32 × Int32 × (Nat → Int64) × (Nat → Int64) × (Nat → Int64) × Int32 × Int64 × Int64 × Int64 × Int64 × Int64 × Int64 × Int64 × Int64 × Int64 × Int64 × Int64 × Int64 × Int64 × Int64 × (Nat → Int64) × (Nat → Int64) × Int64 × Int64 × Int64 × Int64 × Int64 × Int64 × Int64 × Int64) (z : Int64 × Int64 × Int64 × Int32 × Int32 × Int32 × Int32 × Int64 × Int64 × Int64 × Int32 × (Nat → Int32) × (Nat → Int32) × (Nat → Int32)), f_X10_divisors N v1 v2 m_drawers_full m_drawers_partA m_drawers_partB m_factors_count m_factors_threes m_factors_unit m_factors_primeA m_factors_primeB m_factors_norms m_factors_euclid_count m_factors_euclid_last_a m_factors_euclid_last_b m_factors_euclid_lastOfFirst_a m_factors_euclid_lastOfFirst_b m_factors_euclid_lastOfSecond_a m_factors_euclid_lastOfSecond_b m_factors_euclid_next_a m_factors_euclid_next_b m_factors_euclid_nextOfFirst_a m_factors_euclid_nextOfFirst_b m_factors_euclid_nextOfSecond_a m_factors_euclid_nextOfSecond_b m_factors_euclid_q_a m_factors_euclid_q_b m_factors_euclid_quotientA m_factors_euclid_quotientB m_factors_left_a m_factors_left_b m_factors_found_a m_factors_found_b m_factors_product_a m_factors_product_b m_one_a m_one_b = some y ∧ f_X11_divisors N v1 v2 m_ra m_rb m_threes m_primes m_ones m_unit m_allParts m_allNorms m_allClasses m_odd m_has m_first m_second m_pa m_pb m_pNorm = some z ∧ y.1 = z.1 ∧ kR m_drawers_full m_drawers_kept m_drawers_partA m_drawers_partB m_drawers_keptA m_drawers_keptB m_drawers_keptFull m_tape_size m_tape_bytes m_primes_count m_primes_primeA m_primes_primeB m_taped m_tape m_has m_keptHas m_first m_second m_keptFirst m_keptSecond m_states m_la0 m_lb0 m_listed := by
  have hR0 := hR
  obtain ⟨⟨dr, hD⟩, hK, hT, hP⟩ := hR
  unfold f_X10_divisors f_X11_divisors
  rcases dr_cases v1 with h1 | ⟨i, hi, rfl⟩
  · simp only [f_X0_has, (dr_out h1).1, (dr_out h1).2, Option.bind_some, z00, if_true]
    exact ⟨_, _, rfl, rfl, rfl, hR0⟩
  cases e1 : dr i with
  | none =>
    rw [s_has0 hD hi e1, Option.bind_some, if_pos rfl]
    simp only [(dr_in hi).2, hD.hasN hi e1, Option.bind_some, z10, if_false, dr_cl hi, dr_n0 hi, dr_8 hi, or_self, if_true]
    exact ⟨_, _, rfl, rfl, rfl, hR0⟩
  | some p =>
    obtain ⟨c, d⟩ := p
    obtain ⟨hn, -, -, f1, g1⟩ := hD.num hi e1
    obtain ⟨w, hw, rfl⟩ := iI_of v2
    have hlt : (iI w < 0) = (w < 0) := propext (iI_lt0 hw)
    have hle : (iI w ≤ 3) = (w ≤ 3) := propext (iI_le hw (b := 3) ⟨by decide, by decide⟩)
    have hin : f_X11_in (iI w).toInt64 0 3 = some (if 0 ≤ w ∧ w ≤ 3 then 1 else 0) := s_in32 hw (l := 0) (h := 3) ⟨by decide, by decide⟩ ⟨by decide, by decide⟩
    rw [s_has1 hD hi e1, Option.bind_some, if_neg j1, s_load hD hi e1]
    simp only [(dr_in hi).2, hD.has1 hi e1, Option.bind_some, z10, if_false, dr_cl hi, dr_n0 hi, dr_8 hi, or_self, s_isNothing hD hi e1, hlt, hle, hin, s_isNought hn.b64.1 hn.b64.2, f1, g1, iI_l hn.b32.1, iI_l hn.b32.2]
    by_cases cw : 0 ≤ w ∧ w ≤ 3
    · rw [if_neg (show ¬ w < 0 by omega), if_pos cw.2]
      by_cases c0 : c = 0 ∧ d = 0
      · simp only [if_pos c0, if_neg j1]
        exact ⟨_, _, rfl, rfl, rfl, hR0⟩
      · simp only [if_neg c0, if_pos cw, if_neg j1, if_true]
        obtain ⟨L, t, u, s1, s2, s3, s4, s5, s6, C, R⟩ := s_fac2 hN hn (ne00 c0)
        obtain ⟨A', B', n', z, r1, e2⟩ := C m_factors_primeA m_factors_primeB m_factors_norms m_factors_euclid_count m_factors_euclid_last_a m_factors_euclid_last_b m_factors_euclid_lastOfFirst_a m_factors_euclid_lastOfFirst_b m_factors_euclid_lastOfSecond_a m_factors_euclid_lastOfSecond_b m_factors_euclid_next_a m_factors_euclid_next_b m_factors_euclid_nextOfFirst_a m_factors_euclid_nextOfFirst_b m_factors_euclid_nextOfSecond_a m_factors_euclid_nextOfSecond_b m_factors_euclid_q_a m_factors_euclid_q_b m_factors_euclid_quotientA m_factors_euclid_quotientB m_factors_found_a m_factors_found_b m_factors_product_a m_factors_product_b
        obtain ⟨th, pa', pb', pn', r2, e3'⟩ := R m_pa m_pb m_pNorm
        obtain ⟨p', q', c', d', k0, k1, k2, k3, k4⟩ := s_cAll hN r2 s2 s3 s4 (lI c) (lI d) th (nI u)
        have x0 : f_X2_divisorSum N 0 (nI L.length) (nI t) A' B' n' = some (lI p') := by rw [← k1]; exact ds_loop r1 s2 s3 s4 false (t + L.length) 0 (by omega) N (1, 1, 1) (by omega)
        have x1 : f_X2_divisorSum N 1 (nI L.length) (nI t) A' B' n' = some (lI q') := by rw [← k2]; exact ds_loop r1 s2 s3 s4 true (t + L.length) 0 (by omega) N (1, 1, 1) (by omega)
        have x2 : f_X2_primeClasses N (nI L.length) (nI t) A' B' n' = some (lI c') := by rw [← k3]; exact pc_loop r1 s2 s3 s4 (t + L.length) 0 (by omega) N 1 (by omega)
        have x3 : f_X2_squarefreeSign N (nI L.length) (nI t) A' B' = some d' := by rw [← k4]; exact sf_loop r1 s2 s3 s4 (t + L.length) 0 (by omega) N 1 (by omega)
        unfold f_X11_countsAll
        rw [e2, e3', Option.bind_some, Option.bind_some]
        simp only []
        rw [k0, Option.bind_some, x0, x1, x2, x3]
        have w4 : w = 0 ∨ w = 1 ∨ w = 2 ∨ w = 3 := by omega
        rcases w4 with rfl | rfl | rfl | rfl
        · rw [if_pos (show iI 0 = 0 by decide), if_pos (show iI 0 = 0 by decide), Option.bind_some]
          exact ⟨_, _, rfl, rfl, rfl, hR0⟩
        · rw [if_neg (show ¬ iI 1 = 0 by decide), if_neg (show ¬ iI 1 = 0 by decide), if_pos (show iI 1 = 1 by decide), if_pos (show iI 1 = 1 by decide), Option.bind_some]
          exact ⟨_, _, rfl, rfl, rfl, hR0⟩
        · rw [if_neg (show ¬ iI 2 = 0 by decide), if_neg (show ¬ iI 2 = 0 by decide), if_neg (show ¬ iI 2 = 1 by decide), if_neg (show ¬ iI 2 = 1 by decide), if_pos (show iI 2 = 2 by decide), if_pos (show iI 2 = 2 by decide), Option.bind_some]
          exact ⟨_, _, rfl, rfl, rfl, hR0⟩
        · rw [if_neg (show ¬ iI 3 = 0 by decide), if_neg (show ¬ iI 3 = 0 by decide), if_neg (show ¬ iI 3 = 1 by decide), if_neg (show ¬ iI 3 = 1 by decide), if_neg (show ¬ iI 3 = 2 by decide), if_neg (show ¬ iI 3 = 2 by decide), Option.bind_some]
          exact ⟨_, _, rfl, rfl, rfl, hR0⟩
    · have cA : ∀ {α : Type} {P R : Option α}, (if w < 0 then P else if w ≤ 3 then R else P) = P := by
        intro α P R
        by_cases c1 : w < 0
        · rw [if_pos c1]
        · rw [if_neg c1, if_neg (by omega)]
      rw [cA]
      by_cases c0 : c = 0 ∧ d = 0
      · simp only [if_pos c0, if_neg j1]
        exact ⟨_, _, rfl, rfl, rfl, hR0⟩
      · simp only [if_neg c0, if_neg cw, if_true]
        exact ⟨_, _, rfl, rfl, rfl, hR0⟩
