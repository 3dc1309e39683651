/-! ===== steps, nearest ===== -/
theorem some_ne {α : Type} {x : Option α} {y : α} (h : x = some y) : x ≠ none := by rw [h]; exact fun z => nomatch z
theorem isome_and {dr : Nat → Option (Int × Int)} {i j : Nat} (h : dr i = none ∨ dr j = none) : ((dr i).isSome && (dr j).isSome) = false := by
  rcases h with h | h
  · rw [h]; rfl
  · rw [h]; cases (dr i).isSome <;> rfl
theorem q_steps (N : Nat) (hN : 1048576 ≤ N) (v1 v2 : Int32) (m_drawers_full m_drawers_kept : Int32) (m_drawers_partA m_drawers_partB m_drawers_keptA m_drawers_keptB m_drawers_keptFull : Nat → Int32) (m_tape_size : Int32) (m_tape_bytes : Nat → Int32) (m_primes_count : Int32) (m_primes_primeA m_primes_primeB : Nat → Int32) (m_one_a m_one_b m_two_a m_two_b : Int64) (m_taped m_states m_listed : Int32) (m_tape m_has m_keptHas m_first m_second m_keptFirst m_keptSecond m_la0 m_lb0 : Nat → Int32) (hR : kR m_drawers_full m_drawers_kept m_drawers_partA m_drawers_partB m_drawers_keptA m_drawers_keptB m_drawers_keptFull m_tape_size m_tape_bytes m_primes_count m_primes_primeA m_primes_primeB m_taped m_tape m_has m_keptHas m_first m_second m_keptFirst m_keptSecond m_states m_la0 m_lb0 m_listed) : ∃ (y : Int32 × Int64 × Int64 × Int64 × Int64) (z : Int32), f_X10_steps v1 v2 m_drawers_full m_drawers_partA m_drawers_partB m_one_a m_one_b m_two_a m_two_b = some y ∧ f_X11_steps v1 v2 m_has m_first m_second = some z ∧ y.1 = z ∧ kR m_drawers_full m_drawers_kept m_drawers_partA m_drawers_partB m_drawers_keptA m_drawers_keptB m_drawers_keptFull m_tape_size m_tape_bytes m_primes_count m_primes_primeA m_primes_primeB m_taped m_tape m_has m_keptHas m_first m_second m_keptFirst m_keptSecond m_states m_la0 m_lb0 m_listed := by
  have hR0 := hR
  obtain ⟨⟨dr, hD⟩, hK, hT, hP⟩ := hR
  rcases dr_two dr v1 v2 with h | ⟨i, j, hi, hj, rfl, rfl, h | ⟨a, b, c, d, e1, e2⟩⟩
  · simp only [f_X10_steps, s_two_out h, Option.bind_some]
    rw [if_neg (by decide)]
    refine ⟨_, (-1 : Int32), rfl, ?_, rfl, hR0⟩
    unfold f_X11_steps
    rcases s_both_out h with h | ⟨h, h'⟩
    · simp only [h, Option.bind_some, z00, if_true]
    · simp only [h, h', Option.bind_some, z00, if_true, z10, if_false]
  · simp only [f_X10_steps, s_two_none hD hi hj h, Option.bind_some]
    rw [if_neg (by decide)]
    refine ⟨_, (-2 : Int32), rfl, ?_, rfl, hR0⟩
    unfold f_X11_steps
    simp only [(dr_in hi).2, (dr_in hj).2, s_hasBoth hD hi hj, isome_and h, Option.bind_some, z00, if_true, z10, if_false, Bool.false_eq_true]
  · obtain ⟨hn1, -, -, f1, g1⟩ := hD.num hi e1
    obtain ⟨hn2, -, -, f2, g2⟩ := hD.num hj e2
    obtain ⟨q1, q2, q3, q4⟩ := hn1
    obtain ⟨r1, r2, r3, r4⟩ := hn2
    have bx : b64 (c - a) := ⟨by omega, by omega⟩
    have by' : b64 (d - b) := ⟨by omega, by omega⟩
    have bz : b64 (c - a - (d - b)) := ⟨by omega, by omega⟩
    have cx : b32 (c - a) := ⟨by omega, by omega⟩
    have cy : b32 (d - b) := ⟨by omega, by omega⟩
    simp only [f_X10_steps, s_two hD hi hj e1 e2, Option.bind_some, z00, if_true, f_X5_subtract, lI_sub, s_abs bx, s_abs by', s_abs bz]
    rw [s_max ⟨by omega, by omega⟩ ⟨by omega, by omega⟩, Option.bind_some, s_max ⟨by omega, by omega⟩ ⟨by omega, by omega⟩, Option.bind_some, lI_i]
    refine ⟨_, iI (max (max ((c - a).natAbs : Int) ((d - b).natAbs : Int)) ((c - a - (d - b)).natAbs : Int)), rfl, ?_, rfl, hR0⟩
    unfold f_X11_steps
    simp only [(dr_in hi).2, (dr_in hj).2, s_hasBoth hD hi hj, e1, e2, Option.bind_some, z10, if_false, Option.isSome_some, Bool.and_self, if_true, dr_cl hi, dr_n0 hi, dr_8 hi, dr_cl hj, dr_n0 hj, dr_8 hj, or_self, f1, f2, g1, g2, iI_sub, iI_l cx, iI_l cy, s_without bx, s_without by', lI_0le bx, lI_0le by']
    unfold f_X11_steps_95
    have w1 : b64 ((c - a).natAbs : Int) := ⟨by omega, by omega⟩
    have w2 : b64 ((d - b).natAbs : Int) := ⟨by omega, by omega⟩
    have d01 : ¬ ((0 : Int32) = 1) := by decide
    simp only [lI_le w1 w2, lI_i, lI_add, z10, d01, if_false, if_true]
    by_cases h1 : 0 ≤ c - a
    · by_cases h2 : 0 ≤ d - b
      · rw [if_pos h1, if_pos h2]
        by_cases h3 : ((c - a).natAbs : Int) ≤ ((d - b).natAbs : Int)
        · rw [if_pos h3]; congr 2; omega
        · rw [if_neg h3]; congr 2; omega
      · rw [if_pos h1, if_neg h2]; congr 2; omega
    · by_cases h2 : 0 ≤ d - b
      · rw [if_neg h1, if_pos h2]; congr 2; omega
      · rw [if_neg h1, if_neg h2]
        by_cases h3 : ((c - a).natAbs : Int) ≤ ((d - b).natAbs : Int)
        · rw [if_pos h3]; congr 2; omega
        · rw [if_neg h3]; congr 2; omega
theorem s_norm (a b : Int) : f_X5_norm (lI a) (lI b) = some (lI (nrm a b)) := by
  unfold f_X5_norm nrm; simp only [lI_mul, lI_sub, lI_add]
theorem s_normX (a b : Int) : f_X11_norm (lI a) (lI b) = some (lI (nrm a b)) := by
  unfold f_X11_norm nrm; simp only [lI_mul, lI_sub, lI_add]
theorem s_normOf (a b : Int) : f_X11_normOf (lI a) (lI b) = some (iI (nrm a b)) := by
  unfold f_X11_normOf; rw [s_normX, Option.bind_some, lI_i]
theorem sq_nn (a : Int) : 0 ≤ a * a := by
  rcases Int.le_total 0 a with h | h
  · exact Int.mul_nonneg h h
  · exact Int.mul_nonneg_of_nonpos_of_nonpos h h
theorem nrm_nn (a b : Int) : 0 ≤ nrm a b := by
  unfold nrm
  have h1 := sq_nn (2 * a - b)
  have h2 := sq_nn b
  have e : (2 * a - b) * (2 * a - b) = 4 * (a * a) - 4 * (a * b) + b * b := by
    grind
  omega
theorem sq_le {a M : Int} (h1 : -M ≤ a) (h2 : a ≤ M) : a * a ≤ M * M := by
  have h := Int.mul_nonneg (show 0 ≤ M - a by omega) (show 0 ≤ M + a by omega)
  have e : (M - a) * (M + a) = M * M - a * a := by
    grind
  omega
theorem nrm_le {a b M : Int} (h1 : -M ≤ a) (h2 : a ≤ M) (h3 : -M ≤ b) (h4 : b ≤ M) : nrm a b ≤ 3 * (M * M) := by
  unfold nrm
  have ha := sq_le h1 h2
  have hb := sq_le h3 h4
  have h5 := sq_nn (a + b)
  have e : (a + b) * (a + b) = a * a + 2 * (a * b) + b * b := by
    grind
  omega
section NEAR
variable {full : Int32} {pA pB has fst snd : Nat → Int32} {dr : Nat → Option (Int × Int)}
theorem near_loop (hD : kRow full pA pB has fst snd 0 dr) {i : Nat} (hi : i < 8) {a b : Int} (ei : dr i = some (a, b)) (N : Nat) (v2 : Int32) : ∀ (m j : Nat), j + m = 8 → ∀ (k : Nat), m < k → ∀ (v3 : Int32) (L : Int), 0 ≤ L → L ≤ 1200000000 → ∀ (x y : Int64), ∃ (z : Int32 × Int64 × Int64 × Int64 × Int64) (w : Int32), f_X10_nearest_52 N k (nI i) v2 v3 (lI L) (nI j) full pA pB (lI a) (lI b) x y = some z ∧ f_X11_nearest_39 N k (nI i) v2 v3 (iI L) (nI j) has fst snd = some w ∧ z.1 = w := by
  intro m
  induction m with
  | zero =>
    intro j hjm k hk v3 L h0 h1 x y
    obtain rfl : j = 8 := by omega
    obtain ⟨k, rfl⟩ : ∃ k', k = k' + 1 := ⟨k - 1, by omega⟩
    have e88 : ((8 : Int32) ≤ nI 8) = True := eq_true (by decide)
    rw [f_X10_nearest_52, f_X11_nearest_39]
    simp only [e88, if_true]
    by_cases c1 : v3 = -1
    · rw [if_pos c1, if_pos c1]; exact ⟨_, _, rfl, rfl, rfl⟩
    · rw [if_neg c1, if_neg c1]
      by_cases c2 : v2 = 0
      · rw [if_pos c2, if_pos c2]; exact ⟨_, _, rfl, rfl, rfl⟩
      · rw [if_neg c2, if_neg c2]; exact ⟨_, _, rfl, rfl, lI_i L⟩
  | succ m ih =>
    intro j hjm k hk v3 L h0 h1 x y
    have hj : j < 8 := by omega
    obtain ⟨k, rfl⟩ : ∃ k', k = k' + 1 := ⟨k - 1, by omega⟩
    have e8 : ((8 : Int32) ≤ nI j) = False := eq_false (nI_ge hj (by decide))
    have e1 : nI j + 1 = nI (j + 1) := nI_1 j
    rw [f_X10_nearest_52, f_X11_nearest_39]
    simp only [e8, if_false, e1]
    by_cases c1 : nI j = nI i
    · rw [if_pos c1, if_pos c1]
      exact ih (j + 1) (by omega) k (by omega) v3 L h0 h1 x y
    · rw [if_neg c1, if_neg c1]
      cases ej : dr j with
      | none =>
        simp only [s_has0 hD hj ej, hD.hasN hj ej, Option.bind_some, z00, if_true, dr_cl hj, dr_n0 hj, dr_8 hj, or_self, if_false]
        exact ih (j + 1) (by omega) k (by omega) v3 L h0 h1 x y
      | some p =>
        obtain ⟨c, d⟩ := p
        obtain ⟨hn1, -, -, f1, g1⟩ := hD.num hi ei
        obtain ⟨hn2, -, -, f2, g2⟩ := hD.num hj ej
        obtain ⟨q1, q2, q3, q4⟩ := hn1
        obtain ⟨r1, r2, r3, r4⟩ := hn2
        have cx : b32 (c - a) := ⟨by omega, by omega⟩
        have cy : b32 (d - b) := ⟨by omega, by omega⟩
        have n0 := nrm_nn (c - a) (d - b)
        have n1 := nrm_le (a := c - a) (b := d - b) (M := 19998) (by omega) (by omega) (by omega) (by omega)
        have bn : b32 (nrm (c - a) (d - b)) := ⟨by omega, by omega⟩
        have bL : b32 L := ⟨by omega, by omega⟩
        simp only [s_has1 hD hj ej, hD.has1 hj ej, s_load hD hj ej, f_X5_subtract, lI_sub, f_X10_nearest_119, s_norm, s_normOf, Option.bind_some, z10, if_false, dr_cl hj, dr_n0 hj, dr_8 hj, dr_cl hi, dr_n0 hi, dr_8 hi, or_self, f1, f2, g1, g2, iI_sub, iI_l cx, iI_l cy, e1, lI_le (b64_of32 bL) (b64_of32 bn), iI_lt bn bL]
        by_cases c2 : v3 = -1
        · rw [if_pos c2, if_pos c2]
          exact ih (j + 1) (by omega) k (by omega) (nI j) _ n0 (by omega) _ _
        · rw [if_neg c2, if_neg c2]
          by_cases c3 : L ≤ nrm (c - a) (d - b)
          · rw [if_pos c3, if_neg (by omega)]
            exact ih (j + 1) (by omega) k (by omega) v3 L h0 h1 _ _
          · rw [if_neg c3, if_pos (by omega)]
            exact ih (j + 1) (by omega) k (by omega) (nI j) _ n0 (by omega) _ _
end NEAR
theorem q_nearest (N : Nat) (hN : 1048576 ≤ N) (v1 v2 : Int32) (m_drawers_full m_drawers_kept : Int32) (m_drawers_partA m_drawers_partB m_drawers_keptA m_drawers_keptB m_drawers_keptFull : Nat → Int32) (m_tape_size : Int32) (m_tape_bytes : Nat → Int32) (m_primes_count : Int32) (m_primes_primeA m_primes_primeB : Nat → Int32) (m_one_a m_one_b m_two_a m_two_b : Int64) (m_taped m_states m_listed : Int32) (m_tape m_has m_keptHas m_first m_second m_keptFirst m_keptSecond m_la0 m_lb0 : Nat → Int32) (hR : kR m_drawers_full m_drawers_kept m_drawers_partA m_drawers_partB m_drawers_keptA m_drawers_keptB m_drawers_keptFull m_tape_size m_tape_bytes m_primes_count m_primes_primeA m_primes_primeB m_taped m_tape m_has m_keptHas m_first m_second m_keptFirst m_keptSecond m_states m_la0 m_lb0 m_listed) : ∃ (y : Int32 × Int64 × Int64 × Int64 × Int64) (z : Int32), f_X10_nearest N v1 v2 m_drawers_full m_drawers_partA m_drawers_partB m_one_a m_one_b m_two_a m_two_b = some y ∧ f_X11_nearest N v1 v2 m_has m_first m_second = some z ∧ y.1 = z ∧ kR m_drawers_full m_drawers_kept m_drawers_partA m_drawers_partB m_drawers_keptA m_drawers_keptB m_drawers_keptFull m_tape_size m_tape_bytes m_primes_count m_primes_primeA m_primes_primeB m_taped m_tape m_has m_keptHas m_first m_second m_keptFirst m_keptSecond m_states m_la0 m_lb0 m_listed := by
  have hR0 := hR
  obtain ⟨⟨dr, hD⟩, hK, hT, hP⟩ := hR
  obtain ⟨w, hw, rfl⟩ := iI_of v2
  have hin : f_X11_in (iI w).toInt64 0 1 = some (if 0 ≤ w ∧ w ≤ 1 then 1 else 0) := s_in32 hw (l := 0) (h := 1) ⟨by decide, by decide⟩ ⟨by decide, by decide⟩
  have hle : iI w ≤ 1 ↔ w ≤ 1 := iI_le hw (b := 1) ⟨by decide, by decide⟩
  rcases dr_cases v1 with h | ⟨i, hi, rfl⟩
  · simp only [f_X10_nearest, f_X11_nearest, Option.bind_some, (dr_out h).1, (dr_out h).2, z00, if_true]
    exact ⟨_, _, rfl, rfl, rfl, hR0⟩
  · simp only [f_X10_nearest, f_X11_nearest, Option.bind_some, (dr_in hi).1, (dr_in hi).2, z10, if_false, hin, hle, iI_lt0 hw]
    by_cases c : 0 ≤ w ∧ w ≤ 1
    · rw [if_neg (show ¬ w < 0 by omega), if_pos c.2]
      simp only [c, and_self, if_true, z10, if_false, dr_cl hi, dr_n0 hi, dr_8 hi, or_self]
      cases ei : dr i with
      | none =>
        simp only [s_has0 hD hi ei, hD.hasN hi ei, Option.bind_some, z00, if_true]
        exact ⟨_, _, rfl, rfl, rfl, hR0⟩
      | some p =>
        obtain ⟨a, b⟩ := p
        simp only [s_has1 hD hi ei, hD.has1 hi ei, s_load hD hi ei, Option.bind_some, z10, if_false]
        obtain ⟨z, y, h1, h2, h3⟩ := near_loop hD hi ei N (iI w) 8 0 rfl N (by omega) (-1) 0 (by decide) (by decide) m_two_a m_two_b
        exact ⟨z, y, h1, h2, h3, hR0⟩
    · simp only [c, if_false, z00, if_true]
      by_cases c2 : w < 0
      · rw [if_pos c2]; exact ⟨_, _, rfl, rfl, rfl, hR0⟩
      · rw [if_neg c2, if_neg (by omega)]; exact ⟨_, _, rfl, rfl, rfl, hR0⟩
