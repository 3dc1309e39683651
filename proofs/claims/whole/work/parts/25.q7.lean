/-! ===== work ===== -/
theorem rnd_small {v m : Int} (hm : 1 ≤ m) (hm' : m ≤ 300000000) (h1 : -2000000000 ≤ v) (h2 : v ≤ 2000000000) : -3000000000 ≤ rnd v m ∧ rnd v m ≤ 3000000000 := by
  have h := rnd_bd (v := v) (show 0 < m by omega)
  by_cases c : 0 ≤ rnd v m
  · have := Int.mul_le_mul_of_nonneg_left hm c; omega
  · have := Int.mul_le_mul_of_nonneg_left hm (show 0 ≤ -rnd v m by omega)
    have e : -rnd v m * m = -(rnd v m * m) := by grind
    omega
theorem eq_64 {a b c d : Int} (hx : eb (a, b)) (hy : eb (c, d)) (h0 : (c, d) ≠ (0, 0)) : b64 (eq_ (a, b) (c, d)).1 ∧ b64 (eq_ (a, b) (c, d)).2 := by
  have hp : 1 ≤ nrm c d := en_pos h0
  have hq : nrm c d ≤ 300000000 := hy
  obtain ⟨⟨g1, g2⟩, ⟨g3, g4⟩⟩ := big_bd hx hy
  have e1 := em_ec1 a b c d
  have e2 := em_ec2 a b c d
  unfold eq_
  have r1 := rnd_small (v := (em (a, b) (ec (c, d))).1) (m := nrm c d) hp hq (by omega) (by omega)
  have r2 := rnd_small (v := (em (a, b) (ec (c, d))).2) (m := nrm c d) hp hq (by omega) (by omega)
  have en_d : en (c, d) = nrm c d := rfl
  rw [en_d]
  exact ⟨⟨by simp only; omega, by simp only; omega⟩, ⟨by simp only; omega, by simp only; omega⟩⟩
theorem s_rest_c {a b c d : Int} (hx : eb (a, b)) (hy : eb (c, d)) (h0 : (c, d) ≠ (0, 0)) : ∃ s t : Int64, f_X5_multiply (lI (eq_ (a, b) (c, d)).1) (lI (eq_ (a, b) (c, d)).2) (lI c) (lI d) = some (s, t) ∧ f_X5_subtract (lI a) (lI b) s t = some (lI (er (a, b) (c, d)).1, lI (er (a, b) (c, d)).2) := by
  refine ⟨_, _, s_multiply _ _ _ _, ?_⟩
  unfold f_X5_subtract
  simp only [lI_sub]; rfl
theorem q_work (N : Nat) (hN : 1048576 ≤ N) (v1 v2 v3 v4 : Int32) (m_drawers_full m_drawers_kept : Int32) (m_drawers_partA m_drawers_partB m_drawers_keptA m_drawers_keptB m_drawers_keptFull : Nat → Int32) (m_tape_size : Int32) (m_tape_bytes : Nat → Int32) (m_euclid_count : Int32) (m_euclid_last_a m_euclid_last_b m_euclid_lastOfFirst_a m_euclid_lastOfFirst_b m_euclid_lastOfSecond_a m_euclid_lastOfSecond_b m_euclid_next_a m_euclid_next_b m_euclid_nextOfFirst_a m_euclid_nextOfFirst_b m_euclid_nextOfSecond_a m_euclid_nextOfSecond_b m_euclid_q_a m_euclid_q_b : Int64) (m_euclid_quotientA m_euclid_quotientB : Nat → Int64) (m_primes_count : Int32) (m_primes_primeA m_primes_primeB : Nat → Int32) (m_one_a m_one_b m_two_a m_two_b m_out_a m_out_b m_spare_a m_spare_b : Int64) (m_taped m_states : Int32) (m_ra m_rb : Int64) (m_threes m_listed : Int32) (m_tape m_has m_keptHas m_first m_second m_keptFirst m_keptSecond m_la0 m_lb0 : Nat → Int32) (hR : kR m_drawers_full m_drawers_kept m_drawers_partA m_drawers_partB m_drawers_keptA m_drawers_keptB m_drawers_keptFull m_tape_size m_tape_bytes m_primes_count m_primes_primeA m_primes_primeB m_taped m_tape m_has m_keptHas m_first m_second m_keptFirst m_keptSecond m_states m_la0 m_lb0 m_listed) : ∃ (y : Int32 × Int32 × (Nat → Int32) × (Nat → Int32) × Int32 × Int64 × Int64 × Int64 × Int64 × Int64 × Int64 × Int64 × Int64 × Int64 × Int64 × Int64 × Int64 × Int64 × Int64 × (Nat → Int64) × (Nat → Int64) × Int64 × Int64 × Int64 × Int64 × Int64 × Int64 × Int64 × Int64) (z : Int32 × Int64 × Int64 × Int32 × (Nat → Int32) × (Nat → Int32) × (Nat → Int32)), f_X10_work N v1 v2 v3 v4 m_drawers_full m_drawers_partA m_drawers_partB m_euclid_count m_euclid_last_a m_euclid_last_b m_euclid_lastOfFirst_a m_euclid_lastOfFirst_b m_euclid_lastOfSecond_a m_euclid_lastOfSecond_b m_euclid_next_a m_euclid_next_b m_euclid_nextOfFirst_a m_euclid_nextOfFirst_b m_euclid_nextOfSecond_a m_euclid_nextOfSecond_b m_euclid_q_a m_euclid_q_b m_euclid_quotientA m_euclid_quotientB m_one_a m_one_b m_two_a m_two_b m_out_a m_out_b m_spare_a m_spare_b = some y ∧ f_X11_work N v1 v2 v3 v4 m_ra m_rb m_threes m_has m_first m_second = some z ∧ y.1 = z.1 ∧ kR y.2.1 m_drawers_kept y.2.2.1 y.2.2.2.1 m_drawers_keptA m_drawers_keptB m_drawers_keptFull m_tape_size m_tape_bytes m_primes_count m_primes_primeA m_primes_primeB m_taped m_tape z.2.2.2.2.1 m_keptHas z.2.2.2.2.2.1 z.2.2.2.2.2.2 m_keptFirst m_keptSecond m_states m_la0 m_lb0 m_listed := by
  have hR0 := hR
  obtain ⟨⟨dr, hD⟩, hK, hT, hP⟩ := hR
  obtain ⟨w, hw, rfl⟩ := iI_of v4
  have in5 : f_X11_in (iI w).toInt64 0 5 = some (if 0 ≤ w ∧ w ≤ 5 then 1 else 0) := s_in32 hw (l := 0) (h := 5) ⟨by decide, by decide⟩ ⟨by decide, by decide⟩
  have in34 : f_X11_in (iI w).toInt64 3 4 = some (if 3 ≤ w ∧ w ≤ 4 then 1 else 0) := s_in32 hw (l := 3) (h := 4) ⟨by decide, by decide⟩ ⟨by decide, by decide⟩
  have le5 : (iI w ≤ 5) = (w ≤ 5) := propext (iI_le (b := 5) hw ⟨by decide, by decide⟩)
  have q1 : (iI w = 1) = (w = 1) := propext (iI_eq hw (b := 1) ⟨by decide, by decide⟩)
  have q2 : (iI w = 2) = (w = 2) := propext (iI_eq hw (b := 2) ⟨by decide, by decide⟩)
  have q3 : (iI w = 3) = (w = 3) := propext (iI_eq hw (b := 3) ⟨by decide, by decide⟩)
  have q4 : (iI w = 4) = (w = 4) := propext (iI_eq hw (b := 4) ⟨by decide, by decide⟩)
  have q5 : (iI w = 5) = (w = 5) := propext (iI_eq hw (b := 5) ⟨by decide, by decide⟩)
  have q0 : (iI w = 0) = (w = 0) := propext (iI_0 hw)
  have qlt : (iI w < 0) = (w < 0) := propext (iI_lt0 hw)
  unfold f_X10_work f_X11_work
  rcases dr_cases v3 with h | ⟨l, hl, rfl⟩
  · simp only [(dr_out h).1, Option.bind_some, z00, if_true]
    rcases dr_cases v1 with h1 | ⟨i, hi, rfl⟩
    · simp only [(dr_out h1).2, Option.bind_some, z00, if_true]
      exact ⟨_, _, rfl, rfl, rfl, hR0⟩
    · rcases dr_cases v2 with h2 | ⟨j, hj, rfl⟩
      · simp only [(dr_in hi).2, (dr_out h2).2, Option.bind_some, z00, if_true, z10, if_false]
        exact ⟨_, _, rfl, rfl, rfl, hR0⟩
      · simp only [(dr_in hi).2, (dr_in hj).2, (dr_out h).2, Option.bind_some, z00, if_true, z10, if_false]
        exact ⟨_, _, rfl, rfl, rfl, hR0⟩
  · simp only [(dr_in hl).1, (dr_in hl).2, Option.bind_some, z10, if_false, le5, qlt, in5, in34]
    by_cases cw : 0 ≤ w ∧ w ≤ 5
    · rw [if_neg (show ¬ w < 0 by omega), if_pos cw.2]
      rcases dr_two dr v1 v2 with h | ⟨i, j, hi, hj, rfl, rfl, h | ⟨a, b, c, d, e1, e2⟩⟩
      · simp only [s_two_out h, Option.bind_some]
        rw [if_neg (by decide)]
        rcases s_both_out h with h | ⟨h, h'⟩
        · simp only [h, Option.bind_some, z00, if_true]
          exact ⟨_, _, rfl, rfl, rfl, hR0⟩
        · simp only [h, h', Option.bind_some, z00, if_true, z10, if_false]
          exact ⟨_, _, rfl, rfl, rfl, hR0⟩
      · simp only [s_two_none hD hi hj h, Option.bind_some]
        rw [if_neg (by decide)]
        simp only [(dr_in hi).2, (dr_in hj).2, cw, and_self, Option.bind_some, if_true, z10, if_false, dr_cl hi, dr_n0 hi, dr_8 hi, dr_cl hj, dr_n0 hj, dr_8 hj, or_self]
        cases ei : dr i with
        | none =>
          simp only [hD.hasN hi ei, z00, if_true]
          exact ⟨_, _, rfl, rfl, rfl, hR0⟩
        | some p =>
          have ej : dr j = none := by
            rcases h with h | h
            · rw [h] at ei; exact absurd ei (by simp)
            · exact h
          simp only [hD.has1 hi (a := p.1) (b := p.2) ei, hD.hasN hj ej, z00, if_true, z10, if_false]
          exact ⟨_, _, rfl, rfl, rfl, hR0⟩
      · obtain ⟨hn1, -, -, f1, g1⟩ := hD.num hi e1
        obtain ⟨hn2, -, -, f2, g2⟩ := hD.num hj e2
        have b1 := hn1.b64
        have b2 := hn2.b64
        have x1 := hn1.eb
        have x2 := hn2.eb
        simp only [s_two hD hi hj e1 e2, Option.bind_some, z00, if_true, (dr_in hi).2, (dr_in hj).2, z10, if_false, dr_cl hi, dr_n0 hi, dr_8 hi, dr_cl hj, dr_n0 hj, dr_8 hj, or_self, f1, f2, g1, g2, cw, and_self, hD.has1 hi e1, hD.has1 hj e2, s_isNothing hD hi e1, s_isNothing hD hj e2, q3, q4]
        have st : ∀ (z : Int × Int), b64 z.1 → b64 z.2 → ∃ (r full' : Int32) (pA' pB' has' fst' snd' : Nat → Int32), f_X10_storeOut (nI l) m_drawers_full m_drawers_partA m_drawers_partB (lI z.1) (lI z.2) = some (r, full', pA', pB') ∧ f_X11_takes (nI l) (lI z.1) (lI z.2) m_has m_first m_second = some (r, has', fst', snd') ∧ ∃ dr', kRow full' pA' pB' has' fst' snd' 0 dr' := by
          intro z h1 h2
          obtain ⟨r, fu, p1, p2, h', p3, p4, dr', k1, k2, hk⟩ := s_store hD hl h1 h2
          exact ⟨r, fu, p1, p2, h', p3, p4, k1, k2, dr', hk⟩
        obtain ⟨⟨a1, a2⟩, ⟨a3, a4⟩⟩ := eb_bd x1
        obtain ⟨⟨c1, c2⟩, ⟨c3, c4⟩⟩ := eb_bd x2
        have hw6 : w = 0 ∨ w = 1 ∨ w = 2 ∨ w = 3 ∨ w = 4 ∨ w = 5 := by omega
        rcases hw6 with W | W | W | W | W | W
        · have w_ := W
          have w0 : (w = 0) = True := eq_true W
          have w1 : (w = 1) = False := eq_false (by omega)
          have w2 : (w = 2) = False := eq_false (by omega)
          have w3 : (w = 3) = False := eq_false (by omega)
          have w4 : (w = 4) = False := eq_false (by omega)
          have w5 : (w = 5) = False := eq_false (by omega)
          have w34 : (3 ≤ w ∧ w ≤ 4) = False := eq_false (by omega)
          obtain ⟨r, fu, p1, p2, h', p3, p4, k1, k2, dr', hk⟩ := st (a + c, b + d) ⟨by simp only; omega, by simp only; omega⟩ ⟨by simp only; omega, by simp only; omega⟩
          rw [if_neg (show ¬ w = 3 by omega), if_neg (show ¬ w = 4 by omega), f_X10_work_63, if_neg (show ¬ iI w = 5 by rw [q5, w5]; exact id), f_X10_work_96, if_pos (show (0 : Int32) = 0 from rfl), if_pos (show (0 : Int32) = 0 from rfl), f_X10_reckon, f_X5_copy, Option.bind_some, if_pos (show iI w = 0 by rw [q0, w0]; trivial)]
          simp only [f_X11_work_80, f_X11_work_105, Option.bind_some, ↓reduceIte, dr_cl hi, dr_n0 hi, dr_8 hi, dr_cl hj, dr_n0 hj, dr_8 hj, or_self, f1, f2, g1, g2, q0, q1, q2, q3, q4, q5, w34, z00, z10, w0, w1, w2, w3, w4, w5, iI_l hn1.b32.1, iI_l hn1.b32.2, iI_l hn2.b32.1, iI_l hn2.b32.2, s_isNothing hD hi e1, s_isNothing hD hj e2, f_X5_add, lI_add, iI_add, iI_l (show b32 (a + c) from ⟨by omega, by omega⟩), iI_l (show b32 (b + d) from ⟨by omega, by omega⟩), f_X11_sets, k1, k2]
          exact ⟨_, _, rfl, rfl, rfl, ⟨_, hk⟩, hK, hT, hP⟩
        · have w_ := W
          have w0 : (w = 0) = False := eq_false (by omega)
          have w1 : (w = 1) = True := eq_true W
          have w2 : (w = 2) = False := eq_false (by omega)
          have w3 : (w = 3) = False := eq_false (by omega)
          have w4 : (w = 4) = False := eq_false (by omega)
          have w5 : (w = 5) = False := eq_false (by omega)
          have w34 : (3 ≤ w ∧ w ≤ 4) = False := eq_false (by omega)
          obtain ⟨r, fu, p1, p2, h', p3, p4, k1, k2, dr', hk⟩ := st (a - c, b - d) ⟨by simp only; omega, by simp only; omega⟩ ⟨by simp only; omega, by simp only; omega⟩
          rw [if_neg (show ¬ w = 3 by omega), if_neg (show ¬ w = 4 by omega), f_X10_work_63, if_neg (show ¬ iI w = 5 by rw [q5, w5]; exact id), f_X10_work_96, if_pos (show (0 : Int32) = 0 from rfl), if_pos (show (0 : Int32) = 0 from rfl), f_X10_reckon, f_X5_copy, Option.bind_some, if_neg (show ¬ iI w = 0 by rw [q0, w0]; exact id), if_pos (show iI w = 1 by rw [q1, w1]; trivial)]
          simp only [f_X11_work_80, f_X11_work_105, Option.bind_some, ↓reduceIte, dr_cl hi, dr_n0 hi, dr_8 hi, dr_cl hj, dr_n0 hj, dr_8 hj, or_self, f1, f2, g1, g2, q0, q1, q2, q3, q4, q5, w34, z00, z10, w0, w1, w2, w3, w4, w5, iI_l hn1.b32.1, iI_l hn1.b32.2, iI_l hn2.b32.1, iI_l hn2.b32.2, s_isNothing hD hi e1, s_isNothing hD hj e2, f_X5_subtract, lI_sub, iI_sub, iI_l (show b32 (a - c) from ⟨by omega, by omega⟩), iI_l (show b32 (b - d) from ⟨by omega, by omega⟩), f_X11_sets, k1, k2]
          exact ⟨_, _, rfl, rfl, rfl, ⟨_, hk⟩, hK, hT, hP⟩
        · have w_ := W
          have w0 : (w = 0) = False := eq_false (by omega)
          have w1 : (w = 1) = False := eq_false (by omega)
          have w2 : (w = 2) = True := eq_true W
          have w3 : (w = 3) = False := eq_false (by omega)
          have w4 : (w = 4) = False := eq_false (by omega)
          have w5 : (w = 5) = False := eq_false (by omega)
          have w34 : (3 ≤ w ∧ w ≤ 4) = False := eq_false (by omega)
          have m1 := mul_bd (a := a) (b := c) (M := 20000) (K := 20000) (by omega) (by omega) (by omega) (by omega)
          have m2 := mul_bd (a := a) (b := d) (M := 20000) (K := 20000) (by omega) (by omega) (by omega) (by omega)
          have m3 := mul_bd (a := b) (b := d) (M := 20000) (K := 20000) (by omega) (by omega) (by omega) (by omega)
          have m4 := mul_bd (a := b) (b := c) (M := 20000) (K := 20000) (by omega) (by omega) (by omega) (by omega)
          have o1 := s_multiply a b c d
          have o2 := s_times a b c d
          have o3 : b64 (em (a, b) (c, d)).1 := ⟨by simp only [em]; omega, by simp only [em]; omega⟩
          have o4 : b64 (em (a, b) (c, d)).2 := ⟨by simp only [em]; omega, by simp only [em]; omega⟩
          generalize em (a, b) (c, d) = z at o1 o2 o3 o4
          obtain ⟨r, fu, p1, p2, h', p3, p4, k1, k2, dr', hk⟩ := st z o3 o4
          rw [if_neg (show ¬ w = 3 by omega), if_neg (show ¬ w = 4 by omega), f_X10_work_63, if_neg (show ¬ iI w = 5 by rw [q5, w5]; exact id), f_X10_work_96, if_pos (show (0 : Int32) = 0 from rfl), if_pos (show (0 : Int32) = 0 from rfl), f_X10_reckon, f_X5_copy, Option.bind_some, if_neg (show ¬ iI w = 0 by rw [q0, w0]; exact id), if_neg (show ¬ iI w = 1 by rw [q1, w1]; exact id), if_pos (show iI w = 2 by rw [q2, w2]; trivial)]
          simp only [f_X11_work_80, f_X11_work_105, Option.bind_some, ↓reduceIte, dr_cl hi, dr_n0 hi, dr_8 hi, dr_cl hj, dr_n0 hj, dr_8 hj, or_self, f1, f2, g1, g2, q0, q1, q2, q3, q4, q5, w34, z00, z10, w0, w1, w2, w3, w4, w5, iI_l hn1.b32.1, iI_l hn1.b32.2, iI_l hn2.b32.1, iI_l hn2.b32.2, s_isNothing hD hi e1, s_isNothing hD hj e2, o1, o2, k1, k2]
          exact ⟨_, _, rfl, rfl, rfl, ⟨_, hk⟩, hK, hT, hP⟩
        · have w_ := W
          have w0 : (w = 0) = False := eq_false (by omega)
          have w1 : (w = 1) = False := eq_false (by omega)
          have w2 : (w = 2) = False := eq_false (by omega)
          have w3 : (w = 3) = True := eq_true W
          have w4 : (w = 4) = False := eq_false (by omega)
          have w5 : (w = 5) = False := eq_false (by omega)
          have w34 : (3 ≤ w ∧ w ≤ 4) = True := eq_true (by omega)
          by_cases h0 : c = 0 ∧ d = 0
          · rw [if_pos W, f_X10_work_48, s_isNought b2.1 b2.2, Option.bind_some, if_pos h0, if_neg (show ¬ (1 : Int32) = 0 by decide), f_X10_work_63, if_neg (show ¬ iI w = 5 by rw [q5, w5]; exact id), f_X10_work_96, if_neg (show ¬ (1 : Int32) = 0 by decide)]
            simp only [f_X11_work_80, f_X11_work_105, Option.bind_some, ↓reduceIte, dr_cl hi, dr_n0 hi, dr_8 hi, dr_cl hj, dr_n0 hj, dr_8 hj, or_self, f1, f2, g1, g2, q0, q1, q2, q3, q4, q5, w34, z00, z10, w0, w1, w2, w3, w4, w5, iI_l hn1.b32.1, iI_l hn1.b32.2, iI_l hn2.b32.1, iI_l hn2.b32.2, s_isNothing hD hi e1, s_isNothing hD hj e2, h0, and_self]
            exact ⟨_, _, rfl, rfl, rfl, hR0⟩
          · have h0' : (c, d) ≠ (0, 0) := fun z => h0 ⟨congrArg Prod.fst z, congrArg Prod.snd z⟩
            have o1 := s_bq x1 x2 h0'
            have o2 := s_parts x1 x2 h0'
            have o3 := eq_64 x1 x2 h0'
            generalize eq_ (a, b) (c, d) = z at o1 o2 o3
            obtain ⟨r, fu, p1, p2, h', p3, p4, k1, k2, dr', hk⟩ := st z o3.1 o3.2
            rw [if_pos W, f_X10_work_48, s_isNought b2.1 b2.2, Option.bind_some, if_neg h0, if_pos (show (0 : Int32) = 0 from rfl), f_X10_work_63, if_neg (show ¬ iI w = 5 by rw [q5, w5]; exact id), f_X10_work_96, if_pos (show (0 : Int32) = 0 from rfl), if_pos (show (0 : Int32) = 0 from rfl), f_X10_reckon, f_X5_copy, Option.bind_some, if_neg (show ¬ iI w = 0 by rw [q0, w0]; exact id), if_neg (show ¬ iI w = 1 by rw [q1, w1]; exact id), if_neg (show ¬ iI w = 2 by rw [q2, w2]; exact id), if_pos (show iI w = 3 by rw [q3, w3]; trivial)]
            simp only [f_X11_work_80, f_X11_work_105, Option.bind_some, ↓reduceIte, dr_cl hi, dr_n0 hi, dr_8 hi, dr_cl hj, dr_n0 hj, dr_8 hj, or_self, f1, f2, g1, g2, q0, q1, q2, q3, q4, q5, w34, z00, z10, w0, w1, w2, w3, w4, w5, iI_l hn1.b32.1, iI_l hn1.b32.2, iI_l hn2.b32.1, iI_l hn2.b32.2, s_isNothing hD hi e1, s_isNothing hD hj e2, h0, o1, o2, k1, k2]
            exact ⟨_, _, rfl, rfl, rfl, ⟨_, hk⟩, hK, hT, hP⟩
        · have w_ := W
          have w0 : (w = 0) = False := eq_false (by omega)
          have w1 : (w = 1) = False := eq_false (by omega)
          have w2 : (w = 2) = False := eq_false (by omega)
          have w3 : (w = 3) = False := eq_false (by omega)
          have w4 : (w = 4) = True := eq_true W
          have w5 : (w = 5) = False := eq_false (by omega)
          have w34 : (3 ≤ w ∧ w ≤ 4) = True := eq_true (by omega)
          by_cases h0 : c = 0 ∧ d = 0
          · rw [if_neg (show ¬ w = 3 by omega), if_pos W, f_X10_work_48, s_isNought b2.1 b2.2, Option.bind_some, if_pos h0, if_neg (show ¬ (1 : Int32) = 0 by decide), f_X10_work_63, if_neg (show ¬ iI w = 5 by rw [q5, w5]; exact id), f_X10_work_96, if_neg (show ¬ (1 : Int32) = 0 by decide)]
            simp only [f_X11_work_80, f_X11_work_105, Option.bind_some, ↓reduceIte, dr_cl hi, dr_n0 hi, dr_8 hi, dr_cl hj, dr_n0 hj, dr_8 hj, or_self, f1, f2, g1, g2, q0, q1, q2, q3, q4, q5, w34, z00, z10, w0, w1, w2, w3, w4, w5, iI_l hn1.b32.1, iI_l hn1.b32.2, iI_l hn2.b32.1, iI_l hn2.b32.2, s_isNothing hD hi e1, s_isNothing hD hj e2, h0, and_self]
            exact ⟨_, _, rfl, rfl, rfl, hR0⟩
          · have h0' : (c, d) ≠ (0, 0) := fun z => h0 ⟨congrArg Prod.fst z, congrArg Prod.snd z⟩
            have hr := eb_64 (a := (er (a, b) (c, d)).1) (b := (er (a, b) (c, d)).2) (er_eb x2 h0')
            have o1 := s_bq x1 x2 h0'
            have o2 := s_rests x1 x2 h0'
            obtain ⟨s, t, u1, u2⟩ := s_rest_c x1 x2 h0'
            generalize er (a, b) (c, d) = z at o2 u2 hr
            generalize eq_ (a, b) (c, d) = y at o1 u1
            obtain ⟨r, fu, p1, p2, h', p3, p4, k1, k2, dr', hk⟩ := st z hr.1 hr.2
            rw [if_neg (show ¬ w = 3 by omega), if_pos W, f_X10_work_48, s_isNought b2.1 b2.2, Option.bind_some, if_neg h0, if_pos (show (0 : Int32) = 0 from rfl), f_X10_work_63, if_neg (show ¬ iI w = 5 by rw [q5, w5]; exact id), f_X10_work_96, if_pos (show (0 : Int32) = 0 from rfl), if_pos (show (0 : Int32) = 0 from rfl), f_X10_reckon, f_X5_copy, Option.bind_some, if_neg (show ¬ iI w = 0 by rw [q0, w0]; exact id), if_neg (show ¬ iI w = 1 by rw [q1, w1]; exact id), if_neg (show ¬ iI w = 2 by rw [q2, w2]; exact id), if_neg (show ¬ iI w = 3 by rw [q3, w3]; exact id), if_pos (show iI w = 4 by rw [q4, w4]; trivial)]
            rw [o1, Option.bind_some, u1, Option.bind_some, u2, Option.bind_some, Option.bind_some, k1, Option.bind_some]
            simp only [f_X11_work_80, f_X11_work_105, Option.bind_some, ↓reduceIte, dr_cl hi, dr_n0 hi, dr_8 hi, dr_cl hj, dr_n0 hj, dr_8 hj, or_self, f1, f2, g1, g2, q0, q1, q2, q3, q4, q5, w34, z00, z10, w0, w1, w2, w3, w4, w5, iI_l hn1.b32.1, iI_l hn1.b32.2, iI_l hn2.b32.1, iI_l hn2.b32.2, s_isNothing hD hi e1, s_isNothing hD hj e2, h0, o1, o2, u1, u2, k1, k2]
            exact ⟨_, _, rfl, rfl, rfl, ⟨_, hk⟩, hK, hT, hP⟩
        · have w_ := W
          have w0 : (w = 0) = False := eq_false (by omega)
          have w1 : (w = 1) = False := eq_false (by omega)
          have w2 : (w = 2) = False := eq_false (by omega)
          have w3 : (w = 3) = False := eq_false (by omega)
          have w4 : (w = 4) = False := eq_false (by omega)
          have w5 : (w = 5) = True := eq_true W
          have w34 : (3 ≤ w ∧ w ≤ 4) = False := eq_false (by omega)
          obtain ⟨n, hn, hz, hne, hC, hP', hG⟩ := s_euclid hN (x := (a, b)) (y := (c, d)) x1 x2
          obtain ⟨qa', qb', QA', QB', eC, -⟩ := hC m_euclid_q_a m_euclid_q_b m_euclid_quotientA m_euclid_quotientB
          have hg := (eX_eb x1 x2 n hne).1
          obtain ⟨z, th', t0, t1, t2⟩ := s_own hN (x := (eX (a, b) (c, d) n).1) hg m_threes
          have hz' := en_64 t0 hg
          obtain ⟨r, fu, p1, p2, h', p3, p4, k1, k2, dr', hk⟩ := st z hz'.1 hz'.2
          by_cases h0 : a = 0 ∧ b = 0
          · by_cases h1 : c = 0 ∧ d = 0
            · rw [if_neg (show ¬ w = 3 by omega), if_neg (show ¬ w = 4 by omega), f_X10_work_63, if_pos (show iI w = 5 by rw [q5, w5]; trivial), s_isNought b1.1 b1.2, Option.bind_some, if_pos h0, if_neg (show ¬ (1 : Int32) = 0 by decide), s_isNought b2.1 b2.2, Option.bind_some, if_pos h1, if_neg (show ¬ (1 : Int32) = 0 by decide), f_X10_work_96, if_pos (show (0 : Int32) = 0 from rfl), if_neg (show ¬ (1 : Int32) = 0 by decide)]
              simp only [f_X11_work_80, f_X11_work_105, Option.bind_some, ↓reduceIte, dr_cl hi, dr_n0 hi, dr_8 hi, dr_cl hj, dr_n0 hj, dr_8 hj, or_self, f1, f2, g1, g2, q0, q1, q2, q3, q4, q5, w34, z00, z10, w0, w1, w2, w3, w4, w5, iI_l hn1.b32.1, iI_l hn1.b32.2, iI_l hn2.b32.1, iI_l hn2.b32.2, s_isNothing hD hi e1, s_isNothing hD hj e2, h0, h1, and_self]
              exact ⟨_, _, rfl, rfl, rfl, hR0⟩
            · have hx1 : (a = 0 ∧ b = 0) = True := eq_true h0
              have hx2 : (c = 0 ∧ d = 0) = False := eq_false h1
              rw [if_neg (show ¬ w = 3 by omega), if_neg (show ¬ w = 4 by omega), f_X10_work_63, if_pos (show iI w = 5 by rw [q5, w5]; trivial), s_isNought b1.1 b1.2, Option.bind_some, if_pos h0, if_neg (show ¬ (1 : Int32) = 0 by decide), s_isNought b2.1 b2.2, Option.bind_some, if_neg h1, if_pos (show (0 : Int32) = 0 from rfl), f_X10_work_96, if_pos (show (0 : Int32) = 0 from rfl), if_pos (show (0 : Int32) = 0 from rfl), f_X10_reckon, f_X5_copy, Option.bind_some, if_neg (show ¬ iI w = 0 by rw [q0, w0]; exact id), if_neg (show ¬ iI w = 1 by rw [q1, w1]; exact id), if_neg (show ¬ iI w = 2 by rw [q2, w2]; exact id), if_neg (show ¬ iI w = 3 by rw [q3, w3]; exact id), if_neg (show ¬ iI w = 4 by rw [q4, w4]; exact id)]
              simp only [f_X11_work_80, f_X11_work_105, Option.bind_some, ↓reduceIte, dr_cl hi, dr_n0 hi, dr_8 hi, dr_cl hj, dr_n0 hj, dr_8 hj, or_self, f1, f2, g1, g2, q0, q1, q2, q3, q4, q5, w34, z00, z10, w0, w1, w2, w3, w4, w5, iI_l hn1.b32.1, iI_l hn1.b32.2, iI_l hn2.b32.1, iI_l hn2.b32.2, s_isNothing hD hi e1, s_isNothing hD hj e2, eC, ePart, f_X5_copy, hG, t1, t2, k1, k2, hx1, hx2]
              exact ⟨_, _, rfl, rfl, rfl, ⟨_, hk⟩, hK, hT, hP⟩
          · rw [if_neg (show ¬ w = 3 by omega), if_neg (show ¬ w = 4 by omega), f_X10_work_63, if_pos (show iI w = 5 by rw [q5, w5]; trivial), s_isNought b1.1 b1.2, Option.bind_some, if_neg h0, if_pos (show (0 : Int32) = 0 from rfl), f_X10_work_96, if_pos (show (0 : Int32) = 0 from rfl), if_pos (show (0 : Int32) = 0 from rfl), f_X10_reckon, f_X5_copy, Option.bind_some, if_neg (show ¬ iI w = 0 by rw [q0, w0]; exact id), if_neg (show ¬ iI w = 1 by rw [q1, w1]; exact id), if_neg (show ¬ iI w = 2 by rw [q2, w2]; exact id), if_neg (show ¬ iI w = 3 by rw [q3, w3]; exact id), if_neg (show ¬ iI w = 4 by rw [q4, w4]; exact id)]
            simp only [f_X11_work_80, f_X11_work_105, Option.bind_some, ↓reduceIte, dr_cl hi, dr_n0 hi, dr_8 hi, dr_cl hj, dr_n0 hj, dr_8 hj, or_self, f1, f2, g1, g2, q0, q1, q2, q3, q4, q5, w34, z00, z10, w0, w1, w2, w3, w4, w5, iI_l hn1.b32.1, iI_l hn1.b32.2, iI_l hn2.b32.1, iI_l hn2.b32.2, s_isNothing hD hi e1, s_isNothing hD hj e2, h0, eC, ePart, f_X5_copy, hG, t1, t2, k1, k2]
            exact ⟨_, _, rfl, rfl, rfl, ⟨_, hk⟩, hK, hT, hP⟩
    · have cA : ∀ {P R : Option (Int32 × Int32 × (Nat → Int32) × (Nat → Int32) × Int32 × Int64 × Int64 × Int64 × Int64 × Int64 × Int64 × Int64 × Int64 × Int64 × Int64 × Int64 × Int64 × Int64 × Int64 × (Nat → Int64) × (Nat → Int64) × Int64 × Int64 × Int64 × Int64 × Int64 × Int64 × Int64 × Int64)}, (if w < 0 then P else if w ≤ 5 then R else P) = P := by
        intro P R
        by_cases c1 : w < 0
        · rw [if_pos c1]
        · rw [if_neg c1, if_neg (by omega)]
      rw [cA]
      simp only [cw, if_false, z00, if_true]
      rcases dr_cases v1 with h1 | ⟨i, hi, rfl⟩
      · simp only [(dr_out h1).2, Option.bind_some, z00, if_true]
        exact ⟨_, _, rfl, rfl, rfl, hR0⟩
      · rcases dr_cases v2 with h2 | ⟨j, hj, rfl⟩
        · simp only [(dr_in hi).2, (dr_out h2).2, Option.bind_some, z00, if_true, z10, if_false]
          exact ⟨_, _, rfl, rfl, rfl, hR0⟩
        · simp only [(dr_in hi).2, (dr_in hj).2, Option.bind_some, z00, if_true, z10, if_false]
          exact ⟨_, _, rfl, rfl, rfl, hR0⟩
