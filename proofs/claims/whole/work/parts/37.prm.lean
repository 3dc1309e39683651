/-! ===== whole primes: the least part, splits ===== -/
def rp (p : Nat) : Prop := 2 ≤ p ∧ ∀ d : Nat, d ∣ p → d = 1 ∨ d = p
def isLp (n k : Nat) : Prop := 2 ≤ k ∧ k ∣ n ∧ ∀ d : Nat, 2 ≤ d → d ∣ n → k ≤ d
theorem lp_ex {n : Nat} (h : 2 ≤ n) : ∃ k, isLp n k := by
  obtain ⟨k, -, ⟨h1, h2⟩, h3⟩ := least_ex (P := fun k => 2 ≤ k ∧ k ∣ n) n ⟨h, Nat.dvd_refl n⟩
  refine ⟨k, h1, h2, fun d p q => ?_⟩
  by_cases c : d < k
  · exact absurd ⟨p, q⟩ (h3 d c)
  · omega
theorem lp_rp {n k : Nat} (h : isLp n k) : rp k := by
  obtain ⟨h1, h2, h3⟩ := h
  refine ⟨h1, fun d hd => ?_⟩
  have l := Nat.le_of_dvd (by omega) hd
  by_cases c0 : d = 0
  · subst c0
    have := Nat.eq_zero_of_zero_dvd hd
    omega
  by_cases c : d = 1
  · exact Or.inl c
  · have := h3 d (by omega) (Nat.dvd_trans hd h2)
    exact Or.inr (by omega)
theorem lp_sq {n k : Nat} (hn : 1 ≤ n) (h : isLp n k) : k = n ∨ k * k ≤ n := by
  obtain ⟨h1, ⟨m, hm⟩, h3⟩ := h
  have m0 : m ≠ 0 := fun z => by rw [z, Nat.mul_zero] at hm; omega
  by_cases c : m = 1
  · left; rw [c, Nat.mul_one] at hm; exact hm.symm
  · right
    have := h3 m (by omega) ⟨k, by rw [hm, Nat.mul_comm]⟩
    rw [hm]
    exact Nat.mul_le_mul_left k this
theorem lp_iff {n k : Nat} (h : isLp n k) (hn : 1 ≤ n) : rp n ↔ k = n := by
  constructor
  · intro r
    rcases r.2 k h.2.1 with z | z
    · have := h.1; omega
    · exact z
  · intro z
    have := lp_rp h
    rw [z] at this; exact this
theorem i_rem0 {n q : Nat} (hn : n < 2147483648) (hq : 1 ≤ q) (hq' : q < 2147483648) : (iI n - iI n / iI q * iI q = 0) ↔ q ∣ n := by
  rw [iI_rem ⟨by omega, by omega⟩ ⟨by omega, by omega⟩, Int.tmod_eq_emod_of_nonneg (by omega)]
  have e : ((n : Int) % (q : Int)) = ((n % q : Nat) : Int) := by omega
  have l := Nat.mod_lt n (show 0 < q by omega)
  rw [e, iI_0 ⟨by omega, by omega⟩]
  constructor
  · intro z; exact Nat.dvd_of_mod_eq_zero (by omega)
  · intro z; have := Nat.mod_eq_zero_of_dvd z; omega
theorem sq_lim {q : Nat} (h : 17322 ≤ q) : 300000000 < q * q := by
  have := Nat.mul_le_mul h h
  omega
theorem lp_loop (N : Nat) {n k : Nat} (hn : 2 ≤ n) (hn' : n ≤ 300000000) (h : isLp n k) : ∀ (j q : Nat), q + j = 17322 → 2 ≤ q → q ≤ k → ∀ f : Nat, j < f → f_X11_leastPart_2 N f (iI n) (iI q) = some (iI k) := by
  have hsq := lp_sq (by omega) h
  intro j
  induction j with
  | zero =>
    intro q hq h2 hk f hf
    obtain ⟨f, rfl⟩ : ∃ f', f = f' + 1 := ⟨f - 1, by omega⟩
    have l := sq_lim (q := q) (by omega)
    have l2 : q * q = 300051684 := by rw [show q = 17322 by omega]
    have e : k = n := by
      rcases hsq with z | z
      · exact z
      · have := Nat.mul_le_mul hk hk; omega
    rw [f_X11_leastPart_2, iI_mul, show (q : Int) * (q : Int) = ((q * q : Nat) : Int) from rfl, if_pos ((iI_lt ⟨by omega, by omega⟩ ⟨by omega, by omega⟩).mpr (by omega)), if_pos ((iI_lt ⟨by omega, by omega⟩ ⟨by omega, by omega⟩).mpr (by omega)), e]
  | succ j ih =>
    intro q hq h2 hk f hf
    obtain ⟨f, rfl⟩ : ∃ f', f = f' + 1 := ⟨f - 1, by omega⟩
    have l2 : q * q ≤ 17322 * 17322 := Nat.mul_le_mul (by omega) (by omega)
    have qn : ¬ iI (q : Int) = 0 := by rw [iI_0 ⟨by omega, by omega⟩]; omega
    have es : (q : Int) * (q : Int) = ((q * q : Nat) : Int) := rfl
    rw [f_X11_leastPart_2, iI_mul, es]
    by_cases c : n < q * q
    · have e : k = n := by
        rcases hsq with z | z
        · exact z
        · have := Nat.mul_le_mul hk hk; omega
      rw [if_pos ((iI_lt ⟨by omega, by omega⟩ ⟨by omega, by omega⟩).mpr (by omega)), if_pos ((iI_lt ⟨by omega, by omega⟩ ⟨by omega, by omega⟩).mpr (by omega)), e]
    · have nl : ¬ iI (n : Int) < iI ((q * q : Nat) : Int) := by rw [iI_lt ⟨by omega, by omega⟩ ⟨by omega, by omega⟩]; omega
      rw [if_neg nl, if_neg qn]
      by_cases d : q ∣ n
      · have : k = q := by have := h.2.2 q h2 d; omega
        rw [if_pos ((i_rem0 (by omega) (by omega) (by omega)).mpr d), if_neg nl, this]
      · rw [if_neg (fun z => d ((i_rem0 (by omega) (by omega) (by omega)).mp z)), i1, iI_add]
        exact ih (q + 1) (by omega) (by omega) (by
          have : q ≠ k := fun z => d (by rw [z]; exact h.2.1)
          omega) f (by omega)
theorem s_lp {N : Nat} (hN : 1048576 ≤ N) {n k : Nat} (hn : 2 ≤ n) (hn' : n ≤ 300000000) (h : isLp n k) : f_X11_leastPart N (iI n) = some (iI k) :=
  lp_loop N hn hn' h 17320 2 (by omega) (by omega) h.1 N (by omega)
theorem ip_loop (N : Nat) {n k : Nat} (hn : 2 ≤ n) (hn' : n ≤ 300000000) (h : isLp n k) : ∀ (j q : Nat), q + j = 17322 → 2 ≤ q → q ≤ k → ∀ f : Nat, j < f → f_X9_isPrime_9 N f (iI n) (iI q) = some (if k = n then 1 else 0) := by
  have hsq := lp_sq (by omega) h
  have big : ∀ q : Nat, 2 ≤ q → q ≤ 17322 → (iI (n : Int) / iI (q : Int) < iI (q : Int) ↔ n < q * q) := by
    intro q h2 h3
    rw [iI_dv (by omega) ⟨by omega, by omega⟩ ⟨by omega, by omega⟩]
    have e : (n : Int) / (q : Int) = ((n / q : Nat) : Int) := by omega
    have l := Nat.div_le_self n q
    have nn : (0 : Int) ≤ ((n / q : Nat) : Int) := Int.natCast_nonneg _
    rw [e, iI_lt ⟨by omega, by omega⟩ ⟨by omega, by omega⟩]
    have := Nat.div_lt_iff_lt_mul (k := q) (x := n) (y := q) (by omega)
    omega
  intro j
  induction j with
  | zero =>
    intro q hq h2 hk f hf
    obtain ⟨f, rfl⟩ : ∃ f', f = f' + 1 := ⟨f - 1, by omega⟩
    have l := sq_lim (q := q) (by omega)
    have qn : ¬ iI (q : Int) = 0 := by rw [iI_0 ⟨by omega, by omega⟩]; omega
    have e : k = n := by
      rcases hsq with z | z
      · exact z
      · have := Nat.mul_le_mul hk hk; omega
    rw [f_X9_isPrime_9, if_neg qn, if_pos ((big q h2 (by omega)).mpr (by omega)), if_pos e]
  | succ j ih =>
    intro q hq h2 hk f hf
    obtain ⟨f, rfl⟩ : ∃ f', f = f' + 1 := ⟨f - 1, by omega⟩
    have qn : ¬ iI (q : Int) = 0 := by rw [iI_0 ⟨by omega, by omega⟩]; omega
    rw [f_X9_isPrime_9, if_neg qn]
    by_cases c : n < q * q
    · have e : k = n := by
        rcases hsq with z | z
        · exact z
        · have := Nat.mul_le_mul hk hk; omega
      rw [if_pos ((big q h2 (by omega)).mpr c), if_pos e]
    · rw [if_neg (fun z => c ((big q h2 (by omega)).mp z)), if_neg qn]
      by_cases d : q ∣ n
      · have e : k = q := by have := h.2.2 q h2 d; omega
        have : k ≠ n := by
          intro z
          have : q * 2 ≤ q * q := Nat.mul_le_mul_left q h2
          omega
        rw [if_pos ((i_rem0 (by omega) (by omega) (by omega)).mpr d), if_neg this]
      · rw [if_neg (fun z => d ((i_rem0 (by omega) (by omega) (by omega)).mp z)), i1, iI_add]
        exact ih (q + 1) (by omega) (by omega) (by
          have : q ≠ k := fun z => d (by rw [z]; exact h.2.1)
          omega) f (by omega)
theorem s_ip {N : Nat} (hN : 1048576 ≤ N) {n k : Nat} (hn : 2 ≤ n) (hn' : n ≤ 300000000) (h : isLp n k) : f_X9_isPrime N (iI n) = some (if k = n then 1 else 0) := by
  unfold f_X9_isPrime
  have h2 : (2 : Int32) ≤ iI (n : Int) := (iI_le (a := 2) (b := (n : Int)) ⟨by decide, by decide⟩ ⟨by omega, by omega⟩).mpr (by omega)
  rw [if_pos h2]
  exact ip_loop N hn hn' h 17320 2 (by omega) (by omega) h.1 N (by omega)
/-- whole primes of thirds: both sides ask alike -/
theorem s_third {N : Nat} (hN : 1048576 ≤ N) (v : Int32) : ∃ b : Int32, f_X6_isThird N v = some b ∧ f_X11_isThird N v = some b ∧ (b = 0 ∨ (b = 1 ∧ ∃ p : Nat, v = iI p ∧ 7 ≤ p ∧ p ≤ 997 ∧ p % 3 = 1 ∧ rp p)) := by
  obtain ⟨w, hw, rfl⟩ := iI_of v
  have hlt : (iI w < 7) = (w < 7) := propext (iI_lt hw (b := 7) ⟨by decide, by decide⟩)
  have hle : ((997 : Int32) < iI w) = (997 < w) := propext (iI_lt (a := 997) ⟨by decide, by decide⟩ hw)
  have hin : f_X11_in (iI w).toInt64 7 997 = some (if 7 ≤ w ∧ w ≤ 997 then 1 else 0) := s_in32 hw (l := 7) (h := 997) ⟨by decide, by decide⟩ ⟨by decide, by decide⟩
  unfold f_X6_isThird f_X11_isThird
  rw [hin, Option.bind_some]
  simp only [hlt, hle]
  by_cases c : 7 ≤ w ∧ w ≤ 997
  · obtain ⟨n, rfl⟩ := Int.eq_ofNat_of_zero_le (show 0 ≤ w by omega)
    have m3 : (iI (n : Int) - iI (n : Int) / 3 * 3 = 1) = (n % 3 = 1) := by
      have : iI (n : Int) - iI (n : Int) / 3 * 3 = iI ((n : Int) % 3) := iI_mod (m := 3) (by omega) hw ⟨by decide, by decide⟩
      rw [this]
      exact propext ((iI_eq (b := 1) ⟨by omega, by omega⟩ ⟨by decide, by decide⟩).trans (by omega))
    obtain ⟨k, hk⟩ := lp_ex (n := n) (by omega)
    simp only [show ¬ (n : Int) < 7 by omega, show ¬ 997 < (n : Int) by omega, if_false, c, and_self, if_true, z10, m3]
    by_cases c3 : n % 3 = 1
    · have hk2 := Nat.le_of_dvd (by omega) hk.2.1
      have hwp : f_X11_isWholePrime N (iI (n : Int)) = some (if k = n then 1 else 0) := by
        have n1 : ¬ iI (n : Int) ≤ 1 := by
          intro z
          have := (iI_le (a := (n : Int)) (b := 1) ⟨by omega, by omega⟩ ⟨by decide, by decide⟩).mp z
          omega
        unfold f_X11_isWholePrime
        rw [if_neg n1, s_lp hN (by omega) (by omega) hk, Option.bind_some]
        by_cases ck : k = n
        · rw [if_pos (show iI (k : Int) = iI (n : Int) by rw [ck]), if_pos ck]
        · have ne : ¬ iI (k : Int) = iI (n : Int) := by rw [iI_eq ⟨by omega, by omega⟩ ⟨by omega, by omega⟩]; omega
          rw [if_neg ne, if_neg ck]
      rw [if_pos c3, if_pos c3, s_ip hN (by omega) (by omega) hk, hwp, Option.bind_some]
      by_cases ck : k = n
      · refine ⟨1, ?_, ?_, Or.inr ⟨rfl, n, rfl, by omega, by omega, c3, (lp_iff hk (by omega)).mpr ck⟩⟩ <;> · simp only [ck, if_true, z10, if_false]
      · refine ⟨0, ?_, ?_, Or.inl rfl⟩ <;> · simp only [ck, if_false, if_true]
    · rw [if_neg c3, if_neg c3]
      exact ⟨0, rfl, rfl, Or.inl rfl⟩
  · rw [if_neg c, if_pos rfl]
    refine ⟨0, ?_, rfl, Or.inl rfl⟩
    by_cases c1 : w < 7
    · rw [if_pos c1]
    · rw [if_neg c1, if_pos (by omega)]
theorem ng997 {p : Nat} (h : 997 < p) (hp : p < 2000) : (997 : Int32) < nI p := nI_lt (a := 997) h (by omega)
theorem nn997 {p : Nat} (h : p ≤ 997) : ¬ (997 : Int32) < nI p := nI_nlt (a := 997) h (by decide)
theorem q_thirds (N : Nat) (hN : 1048576 ≤ N) (v1 : Int32) (m_drawers_full m_drawers_kept : Int32) (m_drawers_partA m_drawers_partB m_drawers_keptA m_drawers_keptB m_drawers_keptFull : Nat → Int32) (m_tape_size : Int32) (m_tape_bytes : Nat → Int32) (m_primes_count : Int32) (m_primes_primeA m_primes_primeB : Nat → Int32) (m_taped m_states m_listed : Int32) (m_tape m_has m_keptHas m_first m_second m_keptFirst m_keptSecond m_la0 m_lb0 : Nat → Int32) (hR : kR m_drawers_full m_drawers_kept m_drawers_partA m_drawers_partB m_drawers_keptA m_drawers_keptB m_drawers_keptFull m_tape_size m_tape_bytes m_primes_count m_primes_primeA m_primes_primeB m_taped m_tape m_has m_keptHas m_first m_second m_keptFirst m_keptSecond m_states m_la0 m_lb0 m_listed) : ∃ (y : Int32) (z : Int32), f_X10_thirds N v1 = some y ∧ f_X11_thirds N v1 = some z ∧ y = z ∧ kR m_drawers_full m_drawers_kept m_drawers_partA m_drawers_partB m_drawers_keptA m_drawers_keptB m_drawers_keptFull m_tape_size m_tape_bytes m_primes_count m_primes_primeA m_primes_primeB m_taped m_tape m_has m_keptHas m_first m_second m_keptFirst m_keptSecond m_states m_la0 m_lb0 m_listed := by
  have hR0 := hR
  unfold f_X10_thirds f_X11_thirds
  by_cases c : (-1 : Int32) ≤ v1
  · rw [if_pos c, if_pos c]
    have lp : ∀ (j p : Nat), p + j = 998 → ∀ (f : Nat) (v2 : Int32), j < f → ∃ y, f_X10_thirds_13 N f v1 v2 (nI p) = some y ∧ f_X11_thirds_13 N f v1 v2 (nI p) = some y := by
      intro j
      induction j with
      | zero =>
        intro p hp f v2 hf
        obtain ⟨f, rfl⟩ : ∃ f', f = f' + 1 := ⟨f - 1, by omega⟩
        rw [f_X10_thirds_13, f_X11_thirds_13, if_pos (ng997 (by omega) (by omega)), if_pos (ng997 (by omega) (by omega))]
        by_cases c1 : v1 = -1
        · exact ⟨v2, by rw [if_pos c1], by rw [if_pos c1]⟩
        · exact ⟨-2, by rw [if_neg c1], by rw [if_neg c1]⟩
      | succ j ih =>
        intro p hp f v2 hf
        obtain ⟨f, rfl⟩ : ∃ f', f = f' + 1 := ⟨f - 1, by omega⟩
        obtain ⟨b, e1, e2, -⟩ := s_third hN (nI p)
        rw [f_X10_thirds_13, f_X11_thirds_13, if_neg (nn997 (by omega)), if_neg (nn997 (by omega)), e1, e2, Option.bind_some, Option.bind_some, nI_1]
        by_cases cb : b = 0
        · rw [if_pos cb, if_pos cb]
          exact ih (p + 1) (by omega) f v2 (by omega)
        · rw [if_neg cb, if_neg cb]
          by_cases cv : v2 = v1
          · exact ⟨nI p, by rw [if_pos cv], by rw [if_pos cv]⟩
          · rw [if_neg cv, if_neg cv]
            exact ih (p + 1) (by omega) f (v2 + 1) (by omega)
    obtain ⟨y, e1, e2⟩ := lp 991 7 (by omega) N 0 (by omega)
    exact ⟨y, y, e1, e2, rfl, hR0⟩
  · rw [if_neg c, if_neg c]
    exact ⟨_, _, rfl, rfl, rfl, hR0⟩
