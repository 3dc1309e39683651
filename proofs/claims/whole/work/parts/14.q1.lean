/-! ===== put, take, count ===== -/
theorem bit_if (c : Bool) : f_X10_bit (if c then 1 else 0) = some (if c then 1 else 0) := by
  cases c <;> rfl
theorem dr_n0 {j : Nat} (h : j < 8) : (nI j < 0) = False := eq_false (fun z => dr_ok h (Or.inl z))
theorem dr_8 {j : Nat} (h : j < 8) : (8 ≤ j) = False := eq_false (by omega)
theorem q_put (N : Nat) (hN : 1048576 ≤ N) (v1 v2 v3 : Int32) (m_drawers_full m_drawers_kept : Int32) (m_drawers_partA m_drawers_partB m_drawers_keptA m_drawers_keptB m_drawers_keptFull : Nat → Int32) (m_tape_size : Int32) (m_tape_bytes : Nat → Int32) (m_primes_count : Int32) (m_primes_primeA m_primes_primeB : Nat → Int32) (m_taped m_states m_listed : Int32) (m_tape m_has m_keptHas m_first m_second m_keptFirst m_keptSecond m_la0 m_lb0 : Nat → Int32) (hR : kR m_drawers_full m_drawers_kept m_drawers_partA m_drawers_partB m_drawers_keptA m_drawers_keptB m_drawers_keptFull m_tape_size m_tape_bytes m_primes_count m_primes_primeA m_primes_primeB m_taped m_tape m_has m_keptHas m_first m_second m_keptFirst m_keptSecond m_states m_la0 m_lb0 m_listed) : ∃ (y : Int32 × Int32 × (Nat → Int32) × (Nat → Int32) × Int64 × Int64) (z : Int32 × (Nat → Int32) × (Nat → Int32) × (Nat → Int32)), f_X10_put v1 v2 v3 m_drawers_full m_drawers_partA m_drawers_partB = some y ∧ f_X11_put v1 v2 v3 m_has m_first m_second = some z ∧ y.1 = z.1 ∧ kR y.2.1 m_drawers_kept y.2.2.1 y.2.2.2.1 m_drawers_keptA m_drawers_keptB m_drawers_keptFull m_tape_size m_tape_bytes m_primes_count m_primes_primeA m_primes_primeB m_taped m_tape z.2.1 m_keptHas z.2.2.1 z.2.2.2 m_keptFirst m_keptSecond m_states m_la0 m_lb0 m_listed := by
  obtain ⟨⟨dr, hD⟩, hK, hT, hP⟩ := hR
  obtain ⟨a, ha, rfl⟩ := iI_of v2
  obtain ⟨b, hb, rfl⟩ := iI_of v3
  rcases dr_cases v1 with h | ⟨j, hj, rfl⟩
  · simp only [f_X10_put, f_X11_put, f_X5_set, Option.bind_some, (dr_out h).1, (dr_out h).2, z00, if_true]
    exact ⟨_, _, rfl, rfl, rfl, ⟨dr, hD⟩, hK, hT, hP⟩
  · simp only [f_X10_put, f_X11_put, f_X5_set, Option.bind_some, (dr_in hj).1, (dr_in hj).2, iI_l ha, iI_l hb, s_fits (b64_of32 ha) (b64_of32 hb), s_isNear (b64_of32 ha) (b64_of32 hb), s_fill hj, s_puts hj, lI_i, z10, if_false]
    by_cases hn : kNb a b = true
    · simp only [hn, if_true, z10, if_false]
      exact ⟨_, _, rfl, rfl, rfl, ⟨_, kRow_fill hD hj (kNb_iff.mp hn)⟩, hK, hT, hP⟩
    · simp only [hn, if_false, z00, if_true]
      exact ⟨_, _, rfl, rfl, rfl, ⟨dr, hD⟩, hK, hT, hP⟩
theorem q_take (N : Nat) (hN : 1048576 ≤ N) (v1 : Int32) (m_drawers_full m_drawers_kept : Int32) (m_drawers_partA m_drawers_partB m_drawers_keptA m_drawers_keptB m_drawers_keptFull : Nat → Int32) (m_tape_size : Int32) (m_tape_bytes : Nat → Int32) (m_primes_count : Int32) (m_primes_primeA m_primes_primeB : Nat → Int32) (m_taped m_states m_listed : Int32) (m_tape m_has m_keptHas m_first m_second m_keptFirst m_keptSecond m_la0 m_lb0 : Nat → Int32) (hR : kR m_drawers_full m_drawers_kept m_drawers_partA m_drawers_partB m_drawers_keptA m_drawers_keptB m_drawers_keptFull m_tape_size m_tape_bytes m_primes_count m_primes_primeA m_primes_primeB m_taped m_tape m_has m_keptHas m_first m_second m_keptFirst m_keptSecond m_states m_la0 m_lb0 m_listed) : ∃ (y : Int32 × Int32) (z : Int32 × (Nat → Int32)), f_X10_take v1 m_drawers_full = some y ∧ f_X11_take v1 m_has = some z ∧ y.1 = z.1 ∧ kR y.2 m_drawers_kept m_drawers_partA m_drawers_partB m_drawers_keptA m_drawers_keptB m_drawers_keptFull m_tape_size m_tape_bytes m_primes_count m_primes_primeA m_primes_primeB m_taped m_tape z.2 m_keptHas m_first m_second m_keptFirst m_keptSecond m_states m_la0 m_lb0 m_listed := by
  obtain ⟨⟨dr, hD⟩, hK, hT, hP⟩ := hR
  rcases dr_cases v1 with h | ⟨j, hj, rfl⟩
  · simp only [f_X10_take, f_X11_take, Option.bind_some, (dr_out h).1, (dr_out h).2, z00, if_true]
    exact ⟨_, _, rfl, rfl, rfl, ⟨dr, hD⟩, hK, hT, hP⟩
  · have hc := kRow_clear hD hj
    simp only [f_X10_take, f_X11_take, f_X0_clear, Option.bind_some, (dr_in hj).1, (dr_in hj).2, s_has hD hj, bit_if, dr_cl hj, hD.has0 hj, dr_n0 hj, dr_8 hj, or_self, z10, if_false]
    by_cases hs : (dr j).isSome = true
    · simp only [hs, if_true, z10, if_false]
      exact ⟨_, _, rfl, rfl, rfl, ⟨_, hc⟩, hK, hT, hP⟩
    · simp only [hs, if_false, z00, if_true]
      exact ⟨_, _, rfl, rfl, rfl, ⟨_, hc⟩, hK, hT, hP⟩
/-- the bits of all drawers below j -/
def cntB (F : Nat) : Nat → Int32
  | 0 => 0
  | j + 1 => cntB F j ||| (if F.testBit j then (1 : Int32) <<< (nI j &&& 31) else 0)
theorem cntB8 : ∀ F, F < 256 → cntB F 8 = nI F := by decide +kernel
theorem count_end (N k : Nat) (v1 v2 t s : Int32) (h : Nat → Int32) : f_X11_count_4 N (k + 1) v1 v2 (nI 8) t s h = (if v1 = 0 then some v2 else if v1 = (1 : Int32) then some t else if v1 = (2 : Int32) then some s else some (-1 : Int32)) := by
  unfold f_X11_count_4
  rw [if_pos (by decide)]
theorem count_step (N k : Nat) {j : Nat} (hj : j < 8) (v1 v2 t s : Int32) (h : Nat → Int32) : f_X11_count_4 N (k + 1) v1 v2 (nI j) t s h = f_X11_count_4 N k v1 (v2 ||| (if h j = 0 then 0 else (1 : Int32) <<< (nI j &&& 31))) (nI (j + 1)) t s h := by
  have e8 : ((8 : Int32) ≤ nI j) = False := eq_false (by revert j; decide +kernel)
  have e1 : nI j + 1 = nI (j + 1) := by revert j; decide +kernel
  rw [f_X11_count_4]
  simp only [e8, e1, dr_cl hj, dr_n0 hj, dr_8 hj, or_self, if_false]
  by_cases h0 : h j = 0
  · simp only [h0, if_true]
  · simp only [h0, if_false]
theorem q_count (N : Nat) (hN : 1048576 ≤ N) (v1 : Int32) (m_drawers_full m_drawers_kept : Int32) (m_drawers_partA m_drawers_partB m_drawers_keptA m_drawers_keptB m_drawers_keptFull : Nat → Int32) (m_tape_size : Int32) (m_tape_bytes : Nat → Int32) (m_primes_count : Int32) (m_primes_primeA m_primes_primeB : Nat → Int32) (m_taped m_states m_listed : Int32) (m_tape m_has m_keptHas m_first m_second m_keptFirst m_keptSecond m_la0 m_lb0 : Nat → Int32) (hR : kR m_drawers_full m_drawers_kept m_drawers_partA m_drawers_partB m_drawers_keptA m_drawers_keptB m_drawers_keptFull m_tape_size m_tape_bytes m_primes_count m_primes_primeA m_primes_primeB m_taped m_tape m_has m_keptHas m_first m_second m_keptFirst m_keptSecond m_states m_la0 m_lb0 m_listed) : ∃ (y : Int32) (z : Int32), f_X10_count v1 m_drawers_full m_drawers_kept m_tape_size = some y ∧ f_X11_count N v1 m_taped m_states m_has = some z ∧ y = z ∧ kR m_drawers_full m_drawers_kept m_drawers_partA m_drawers_partB m_drawers_keptA m_drawers_keptB m_drawers_keptFull m_tape_size m_tape_bytes m_primes_count m_primes_primeA m_primes_primeB m_taped m_tape m_has m_keptHas m_first m_second m_keptFirst m_keptSecond m_states m_la0 m_lb0 m_listed := by
  have hR0 := hR
  obtain ⟨⟨dr, hD⟩, ⟨kn, ks, hK⟩, ⟨tn, tp, hT⟩, hP⟩ := hR
  obtain ⟨F, hF, rfl, hB⟩ := hD
  have hh : ∀ j, j < 8 → (if m_has j = 0 then 0 else (1 : Int32) <<< (nI j &&& 31)) = (if F.testBit j then (1 : Int32) <<< (nI j &&& 31) else 0) := by
    intro j hj
    have h1 := (hB j hj).2.1
    rw [Nat.zero_add] at h1
    rw [(hB j hj).1, h1]
    by_cases hs : (dr j).isSome = true
    · simp only [hs, if_true, z10, if_false]
    · simp only [hs, if_false, z00, if_true]; rfl
  have key : f_X11_count N v1 m_taped m_states m_has = (if v1 = 0 then some (nI F) else if v1 = (1 : Int32) then some m_taped else if v1 = (2 : Int32) then some m_states else some (-1 : Int32)) := by
    obtain ⟨M, rfl⟩ : ∃ M, N = M + 9 := ⟨N - 9, by omega⟩
    unfold f_X11_count
    show f_X11_count_4 _ (M + 8 + 1) v1 0 (nI 0) _ _ _ = _
    rw [count_step _ _ (show 0 < 8 by decide), count_step _ _ (show 0 + 1 < 8 by decide), count_step _ _ (show 0 + 1 + 1 < 8 by decide), count_step _ _ (show 0 + 1 + 1 + 1 < 8 by decide), count_step _ _ (show 0 + 1 + 1 + 1 + 1 < 8 by decide), count_step _ _ (show 0 + 1 + 1 + 1 + 1 + 1 < 8 by decide), count_step _ _ (show 0 + 1 + 1 + 1 + 1 + 1 + 1 < 8 by decide), count_step _ _ (show 0 + 1 + 1 + 1 + 1 + 1 + 1 + 1 < 8 by decide)]
    rw [count_end]
    rw [hh 0 (by decide), hh (0 + 1) (by decide), hh (0 + 1 + 1) (by decide), hh (0 + 1 + 1 + 1) (by decide), hh (0 + 1 + 1 + 1 + 1) (by decide), hh (0 + 1 + 1 + 1 + 1 + 1) (by decide), hh (0 + 1 + 1 + 1 + 1 + 1 + 1) (by decide), hh (0 + 1 + 1 + 1 + 1 + 1 + 1 + 1) (by decide)]
    have := cntB8 F hF
    unfold cntB at this
    simp only [cntB] at this
    rw [this]
  have e1 : m_tape_size = m_taped := by rw [hT.2.1, hT.2.2.1]
  have e2 : m_drawers_kept = m_states := by rw [hK.2.1, hK.2.2.1]
  rw [key]
  unfold f_X10_count
  by_cases c0 : v1 = 0
  · rw [if_pos c0, if_pos c0]; exact ⟨_, _, rfl, rfl, rfl, hR0⟩
  · rw [if_neg c0, if_neg c0]
    by_cases c1 : v1 = 1
    · rw [if_pos c1, if_pos c1]; exact ⟨_, _, rfl, rfl, e1, hR0⟩
    · rw [if_neg c1, if_neg c1]
      by_cases c2 : v1 = 2
      · rw [if_pos c2, if_pos c2]; exact ⟨_, _, rfl, rfl, e2, hR0⟩
      · rw [if_neg c2, if_neg c2]; exact ⟨_, _, rfl, rfl, rfl, hR0⟩
