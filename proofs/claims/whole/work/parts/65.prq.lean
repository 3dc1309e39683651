/-! ===== prime ===== -/
theorem i_nmod {n q : Nat} (hn : n < 2147483648) (hq' : q < 2147483648) : iI n - iI n / iI q * iI q = iI ((n % q : Nat) : Int) := by
  rw [iI_rem ⟨by omega, by omega⟩ ⟨by omega, by omega⟩, Int.tmod_eq_emod_of_nonneg (by omega)]
  rfl
theorem pm1 (r b q p : Nat) : (r * b % p) * (b * b % p) ^ q % p = r * b ^ (2 * q + 1) % p := by
  rw [Nat.mul_mod, Nat.mod_mod, ← Nat.pow_mod, ← Nat.mul_mod, Nat.pow_succ, Nat.pow_mul, Nat.mul_assoc, Nat.mul_comm b, show b * b = b ^ 2 by rw [Nat.pow_succ, Nat.pow_one]]
theorem pm0 (r b q p : Nat) : r * (b * b % p) ^ q % p = r * b ^ (2 * q) % p := by
  rw [Nat.mul_mod, ← Nat.pow_mod, ← Nat.mul_mod, Nat.pow_mul, show b * b = b ^ 2 by rw [Nat.pow_succ, Nat.pow_one]]
theorem nmm (a b : Nat) : iI (a : Int) * iI (b : Int) = iI ((a * b : Nat) : Int) := by rw [iI_mul, Int.natCast_mul]
theorem pb_loop {N p : Nat} (h7 : 2 ≤ p) (hp : p ≤ 997) : ∀ (e : Nat), e ≤ 2000 → ∀ (f r b : Nat), e < f → r < p → b < p → f_X11_powerBy_10 N f (iI p) (iI r) (iI b) (iI e) = some (iI ((r * b ^ e % p : Nat) : Int)) := by
  intro e
  induction e using Nat.strongRecOn with
  | _ e ih =>
    intro he f r b hf hr hb
    obtain ⟨f, rfl⟩ : ∃ f', f = f' + 1 := ⟨f - 1, by omega⟩
    rcases Nat.eq_zero_or_pos e with z | z
    · subst z
      rw [f_X11_powerBy_10, if_pos (by decide), Nat.pow_zero, Nat.mul_one, Nat.mod_eq_of_lt hr]
    · have l0' : ¬ iI (e : Int) ≤ (0 : Int32) := fun q => by
        have := (iI_le (a := (e : Int)) (b := 0) ⟨by omega, by omega⟩ ⟨by decide, by decide⟩).mp q
        omega
      have p0 : ¬ iI (p : Int) = 0 := by rw [iI_0 ⟨by omega, by omega⟩]; omega
      have m2 : iI (e : Int) - iI (e : Int) / (2 : Int32) * (2 : Int32) = iI ((e % 2 : Nat) : Int) := i_nmod (q := 2) (by omega) (by decide)
      have d2 : iI (e : Int) / (2 : Int32) = iI ((e / 2 : Nat) : Int) := i_div (q := 2) (by omega) (by decide)
      have bb : b * b ≤ 997 * 997 := Nat.mul_le_mul (by omega) (by omega)
      have rb : r * b ≤ 997 * 997 := Nat.mul_le_mul (by omega) (by omega)
      have lb := Nat.mod_lt (b * b) (show 0 < p by omega)
      have lr := Nat.mod_lt (r * b) (show 0 < p by omega)
      have o1 : (iI ((e % 2 : Nat) : Int) = (1 : Int32)) ↔ e % 2 = 1 := by
        have := iI_eq (a := ((e % 2 : Nat) : Int)) (b := 1) ⟨by omega, by omega⟩ ⟨by decide, by decide⟩
        constructor
        · intro q; have := this.mp q; omega
        · intro q; exact this.mpr (by omega)
      rw [f_X11_powerBy_10, if_neg l0', m2]
      unfold f_X11_powerBy_33
      rw [d2]
      rw [nmm b b, i_nmod (by omega) (by omega)]
      by_cases c : e % 2 = 1
      · rw [if_pos (o1.mpr c), if_neg p0, if_neg p0, nmm r b, i_nmod (by omega) (by omega), ih (e / 2) (by omega) (by omega) f _ _ (by omega) lr lb, pm1, show 2 * (e / 2) + 1 = e by omega]
      · rw [if_neg (fun q => c (o1.mp q)), if_neg p0, ih (e / 2) (by omega) (by omega) f _ _ (by omega) hr lb, pm0, show 2 * (e / 2) = e by omega]
theorem s_powerBy {N : Nat} (hN : 1048576 ≤ N) {p : Nat} (h7 : 2 ≤ p) (hp : p ≤ 997) {a k : Nat} (ha : a < 2147483648) (hk : k ≤ 2000) : f_X11_powerBy N (iI a) (iI k) (iI p) = some (iI ((a ^ k % p : Nat) : Int)) := by
  have p0 : ¬ iI (p : Int) = 0 := by rw [iI_0 ⟨by omega, by omega⟩]; omega
  unfold f_X11_powerBy
  rw [if_neg p0, i_nmod (by omega) (by omega)]
  have h := pb_loop (N := N) h7 hp k hk N 1 (a % p) (by omega) (by omega) (Nat.mod_lt _ (by omega))
  rw [Nat.one_mul, ← Nat.pow_mod] at h
  exact h
theorem s_isCube {N : Nat} (hN : 1048576 ≤ N) {p : Nat} (h7 : 7 ≤ p) (hp : p ≤ 997) {n : Nat} (hn : 1 ≤ n) (hn' : n < p) : (isKub p n → f_X11_isCube N (iI n) (iI p) = some 1) ∧ (¬ isKub p n → f_X11_isCube N (iI n) (iI p) = some 0) := by
  have p0 : ¬ iI (p : Int) = 0 := by rw [iI_0 ⟨by omega, by omega⟩]; omega
  have n0 : ¬ iI (n : Int) - iI (n : Int) / iI (p : Int) * iI (p : Int) = 0 := by
    rw [i_nmod (by omega) (by omega), Nat.mod_eq_of_lt hn', iI_0 ⟨by omega, by omega⟩]; omega
  have k1 : (iI (p : Int) - (1 : Int32)) / (3 : Int32) = iI (((p - 1) / 3 : Nat) : Int) := by
    have : iI (p : Int) - (1 : Int32) = iI ((p - 1 : Nat) : Int) := by
      rw [show (1 : Int32) = iI 1 from rfl, iI_sub]
      exact congrArg iI (by omega)
    rw [this]
    exact i_div (q := 3) (by omega) (by decide)
  have l := Nat.mod_lt (n ^ ((p - 1) / 3)) (show 0 < p by omega)
  have o1 : (iI ((n ^ ((p - 1) / 3) % p : Nat) : Int) = (1 : Int32)) ↔ isKub p n := by
    unfold isKub
    have := iI_eq (a := ((n ^ ((p - 1) / 3) % p : Nat) : Int)) (b := 1) ⟨by omega, by omega⟩ ⟨by decide, by decide⟩
    constructor
    · intro q; have := this.mp q; omega
    · intro q; exact this.mpr (by omega)
  unfold f_X11_isCube
  rw [if_neg p0, if_neg n0, k1, s_powerBy hN (by omega) hp (by omega) (by omega), Option.bind_some]
  exact ⟨fun z => by rw [if_pos (o1.mpr z)], fun z => by rw [if_neg (fun q => z (o1.mp q))]⟩
def mcI (p : Nat) (t : Nat) (A : Nat → Int32) : Prop := ∀ i, i < 2000 → (A i = 0 ∧ ∃ s, 1 ≤ s ∧ s < t ∧ s ^ 3 % p = i) ∨ (A i = 3 ∧ ¬ ∃ s, 1 ≤ s ∧ s < t ∧ s ^ 3 % p = i)
theorem nmodZ (n q : Nat) : ((n : Int) % (q : Int)) = ((n % q : Nat) : Int) := by omega
theorem mc_loop {N p : Nat} (h7 : 2 ≤ p) (hp : p ≤ 997) : ∀ (j t : Nat), 1 ≤ t → t + j = p → ∀ (f : Nat) (A : Nat → Int32), j < f → mcI p t A → ∃ A', f_X10_markCubes_7 N f (iI p) (iI t) A = some A' ∧ mcI p p A' := by
  intro j
  induction j with
  | zero =>
    intro t ht htj f A hf hA
    obtain ⟨f, rfl⟩ : ∃ f', f = f' + 1 := ⟨f - 1, by omega⟩
    obtain rfl : t = p := by omega
    exact ⟨A, by rw [f_X10_markCubes_7, if_pos ((iI_le ⟨by omega, by omega⟩ ⟨by omega, by omega⟩).mpr (Int.le_refl _))], hA⟩
  | succ j ih =>
    intro t ht htj f A hf hA
    obtain ⟨f, rfl⟩ : ∃ f', f = f' + 1 := ⟨f - 1, by omega⟩
    have l := Nat.mod_lt (t ^ 3) (show 0 < p by omega)
    have e3 : t ^ 3 = t * t * t := by grind
    have t2 : t * t ≤ 997 * 997 := Nat.mul_le_mul (by omega) (by omega)
    have t3 : t * t * t ≤ 997 * 997 * 997 := Nat.mul_le_mul t2 (by omega)
    have eM : ((t : Int) * t * t) % (p : Int) = ((t ^ 3 % p : Nat) : Int) := by
      rw [← Int.natCast_mul, ← Int.natCast_mul, nmodZ, e3]
    have fm : f_J9_floorMod_f86c9 (lI ((t : Int) * t * t)) (lI (p : Int)) = some (lI ((t ^ 3 % p : Nat) : Int)) := by
      rw [← eM]
      refine s_floorMod ?_ (by omega) ⟨by omega, by omega⟩
      rw [← Int.natCast_mul, ← Int.natCast_mul]
      exact ⟨by omega, by omega⟩
    have lt' : (iI (t : Int)).toInt64 = lI (t : Int) := iI_l ⟨by omega, by omega⟩
    have lp : (iI (p : Int)).toInt64 = lI (p : Int) := iI_l ⟨by omega, by omega⟩
    have s1 : iI (t : Int) + 1 = iI ((t + 1 : Nat) : Int) := by rw [show (1 : Int32) = iI 1 from rfl, iI_add]; rfl
    rw [f_X10_markCubes_7, if_neg (fun q => by have := (iI_le ⟨by omega, by omega⟩ ⟨by omega, by omega⟩).mp q; omega), lt', lp, lI_mul, lI_mul, fm, Option.bind_some, lI_i, ← iI_nI, s_mark (by omega), Option.bind_some, s1]
    refine ih (t + 1) (by omega) (by omega) f _ (by omega) (fun i hi => ?_)
    unfold upd
    by_cases c : i = t ^ 3 % p
    · rw [if_pos c]
      exact Or.inl ⟨rfl, t, ht, by omega, c.symm⟩
    · rw [if_neg c]
      rcases hA i hi with ⟨q1, s, q2, q3, q4⟩ | ⟨q1, q2⟩
      · exact Or.inl ⟨q1, s, q2, by omega, q4⟩
      · refine Or.inr ⟨q1, ?_⟩
        rintro ⟨s, r1, r2, r3⟩
        by_cases cs : s = t
        · rw [cs] at r3; exact c r3.symm
        · exact q2 ⟨s, r1, by omega, r3⟩
theorem s_markCubes {N : Nat} (hN : 1048576 ≤ N) {p : Nat} (h7 : 2 ≤ p) (hp : p ≤ 997) (A : Nat → Int32) : ∃ A', f_X10_markCubes N (iI p) A = some A' ∧ ∀ i, i < 2000 → (A' i = 0 ∧ isCub p i) ∨ (A' i = 3 ∧ ¬ isCub p i) := by
  obtain ⟨A0, a1, a2⟩ := s_clear hN 3 A
  obtain ⟨A', b1, b2⟩ := mc_loop (N := N) h7 hp (p - 1) 1 (Nat.le_refl _) (by omega) N A0 (by omega) (fun i hi => Or.inr ⟨a2 i hi, fun ⟨s, q1, q2, _⟩ => by omega⟩)
  unfold f_X10_markCubes
  rw [a1, Option.bind_some]
  exact ⟨A', b1, b2⟩
theorem lcb_loop {N : Nat} (hN : 1048576 ≤ N) {p : Nat} (h7 : 7 ≤ p) (hp : p ≤ 997) (h3 : p % 3 = 1) (hr : rp p) {A : Nat → Int32} (hA : ∀ i, i < 2000 → (A i = 0 ∧ isCub p i) ∨ (A i = 3 ∧ ¬ isCub p i)) (wb : Bool) {n0 : Nat} (hn0 : n0 < p) (ht : isCub p n0 ↔ wb = true) (hl : ∀ i, 2 ≤ i → i < n0 → ¬ (isCub p i ↔ wb = true)) : ∀ (j n : Nat), 2 ≤ n → n + j = n0 → ∀ f : Nat, j < f → f_X10_leastMarked_2 N f (iI p) (bI wb) (nI n) A = some (nI n0) ∧ f_X11_leastCube_2 N f (iI p) (bI wb) (nI n) = some (nI n0) := by
  have step : ∀ n, 2 ≤ n → n < p → ∀ f : Nat, ((isCub p n ↔ wb = true) → f_X10_leastMarked_2 N (f + 1) (iI p) (bI wb) (nI n) A = some (nI n) ∧ f_X11_leastCube_2 N (f + 1) (iI p) (bI wb) (nI n) = some (nI n)) ∧ (¬ (isCub p n ↔ wb = true) → f_X10_leastMarked_2 N (f + 1) (iI p) (bI wb) (nI n) A = f_X10_leastMarked_2 N f (iI p) (bI wb) (nI (n + 1)) A ∧ f_X11_leastCube_2 N (f + 1) (iI p) (bI wb) (nI n) = f_X11_leastCube_2 N f (iI p) (bI wb) (nI (n + 1))) := by
    intro n hn hnp f
    have ge : ¬ iI (p : Int) ≤ nI n := by rw [← iI_nI]; exact nI_ge hnp (by omega)
    have ck := cub_kub h7 hp h3 hr (n := n) (by omega) hnp
    have sc := s_isCube hN h7 hp (n := n) (by omega) hnp
    rw [f_X10_leastMarked_2, f_X11_leastCube_2, if_neg ge, s_markAt (by omega), Option.bind_some, nI_1]
    by_cases c : isCub p n
    · have cu : f_X11_isCube N (nI n) (iI p) = some 1 := by rw [iI_nI]; exact sc.1 (ck.mp c)
      have a0 : A n = 0 := by
        rcases hA n (by omega) with q | q
        · exact q.1
        · exact absurd c q.2
      rw [cu, Option.bind_some, if_pos a0]
      cases wb
      · rw [if_neg (show ¬ (1 : Int32) = bI false by decide), if_neg (show ¬ (1 : Int32) = bI false by decide)]
        exact ⟨fun z => absurd (z.mp c) (by decide), fun _ => ⟨rfl, rfl⟩⟩
      · rw [if_pos (show (1 : Int32) = bI true by decide), if_pos (show (1 : Int32) = bI true by decide)]
        exact ⟨fun _ => ⟨rfl, rfl⟩, fun z => absurd ⟨fun _ => rfl, fun _ => c⟩ z⟩
    · have cu : f_X11_isCube N (nI n) (iI p) = some 0 := by rw [iI_nI]; exact sc.2 (fun z => c (ck.mpr z))
      have a0 : A n = 3 := by
        rcases hA n (by omega) with q | q
        · exact absurd q.2 c
        · exact q.1
      rw [cu, Option.bind_some, a0, if_neg (show ¬ (3 : Int32) = 0 by decide)]
      cases wb
      · rw [if_pos (show (0 : Int32) = bI false by decide), if_pos (show (0 : Int32) = bI false by decide)]
        exact ⟨fun _ => ⟨rfl, rfl⟩, fun z => absurd ⟨fun q => absurd q c, fun q => absurd q (by decide)⟩ z⟩
      · rw [if_neg (show ¬ (0 : Int32) = bI true by decide), if_neg (show ¬ (0 : Int32) = bI true by decide)]
        exact ⟨fun z => absurd (z.mpr rfl) c, fun _ => ⟨rfl, rfl⟩⟩
  intro j
  induction j with
  | zero =>
    intro n hn hnj f hf
    obtain ⟨f, rfl⟩ : ∃ f', f = f' + 1 := ⟨f - 1, by omega⟩
    obtain rfl : n = n0 := by omega
    exact (step n hn hn0 f).1 ht
  | succ j ih =>
    intro n hn hnj f hf
    obtain ⟨f, rfl⟩ : ∃ f', f = f' + 1 := ⟨f - 1, by omega⟩
    obtain ⟨q1, q2⟩ := (step n hn (by omega) f).2 (hl n hn (by omega))
    rw [q1, q2]
    exact ih (n + 1) (by omega) (by omega) f (by omega)
theorem s_leastC {N : Nat} (hN : 1048576 ≤ N) {p : Nat} (h7 : 7 ≤ p) (hp : p ≤ 997) (h3 : p % 3 = 1) (hr : rp p) {A : Nat → Int32} (hA : ∀ i, i < 2000 → (A i = 0 ∧ isCub p i) ∨ (A i = 3 ∧ ¬ isCub p i)) (wb : Bool) : ∃ n0 : Nat, 2 ≤ n0 ∧ n0 < p ∧ (isCub p n0 ↔ wb = true) ∧ f_X10_leastMarked N (iI p) (bI wb) A = some (nI n0) ∧ f_X11_leastCube N (iI p) (bI wb) = some (nI n0) := by
  have ex : ∃ n, n < p ∧ (2 ≤ n ∧ (isCub p n ↔ wb = true)) := by
    cases wb
    · obtain ⟨n, n1, n2, n3⟩ := kub_not h7 hp h3 hr
      exact ⟨n, n2, n1, fun z => absurd ((cub_kub h7 hp h3 hr (by omega) n2).mp z) n3, fun z => absurd z (by decide)⟩
    · exact ⟨p - 1, by omega, by omega, fun _ => rfl, fun _ => cub_last h7⟩
  obtain ⟨n, n1, n2⟩ := ex
  obtain ⟨n0, q1, q2, q3⟩ := least_ex (P := fun n => 2 ≤ n ∧ (isCub p n ↔ wb = true)) n n2
  obtain ⟨r1, r2⟩ := lcb_loop hN h7 hp h3 hr hA wb (n0 := n0) (by omega) q2.2 (fun i h1 h2 z => q3 i h2 ⟨h1, z⟩) (n0 - 2) 2 (Nat.le_refl _) (by have := q2.1; omega) N (by omega)
  exact ⟨n0, q2.1, by omega, q2.2, r1, r2⟩
theorem q_prime (N : Nat) (hN : 1048576 ≤ N) (v1 v2 : Int32) (m_drawers_full m_drawers_kept : Int32) (m_drawers_partA m_drawers_partB m_drawers_keptA m_drawers_keptB m_drawers_keptFull : Nat → Int32) (m_tape_size : Int32) (m_tape_bytes : Nat → Int32) (m_primes_count : Int32) (m_primes_primeA m_primes_primeB : Nat → Int32) (m_two_a m_two_b : Int64) (m_marks : Nat → Int32) (m_taped m_states : Int32) (m_ra m_rb : Int64) (m_listed : Int32) (m_tape m_has m_keptHas m_first m_second m_keptFirst m_keptSecond m_la0 m_lb0 : Nat → Int32) (hR : kR m_drawers_full m_drawers_kept m_drawers_partA m_drawers_partB m_drawers_keptA m_drawers_keptB m_drawers_keptFull m_tape_size m_tape_bytes m_primes_count m_primes_primeA m_primes_primeB m_taped m_tape m_has m_keptHas m_first m_second m_keptFirst m_keptSecond m_states m_la0 m_lb0 m_listed) : ∃ (y : Int32 × Int64 × Int64 × (Nat → Int32)) (z : Int32 × Int64 × Int64), f_X10_prime N v1 v2 m_two_a m_two_b m_marks = some y ∧ f_X11_prime N v1 v2 m_ra m_rb = some z ∧ y.1 = z.1 ∧ kR m_drawers_full m_drawers_kept m_drawers_partA m_drawers_partB m_drawers_keptA m_drawers_keptB m_drawers_keptFull m_tape_size m_tape_bytes m_primes_count m_primes_primeA m_primes_primeB m_taped m_tape m_has m_keptHas m_first m_second m_keptFirst m_keptSecond m_states m_la0 m_lb0 m_listed := by
  have hR0 := hR
  unfold f_X10_prime f_X11_prime
  obtain ⟨t, e1, e2, ht⟩ := s_third hN v1
  rw [e1, e2, Option.bind_some, Option.bind_some]
  rcases ht with rfl | ⟨rfl, p, rfl, p1, p2, p3, p4⟩
  · rw [if_pos rfl, if_pos rfl]
    exact ⟨_, _, rfl, rfl, rfl, hR0⟩
  rw [if_neg j1, if_neg j1]
  obtain ⟨w, hw, rfl⟩ := iI_of v2
  have hlt : (iI w < 0) = (w < 0) := propext (iI_lt0 hw)
  have hle : (iI w ≤ 7) = (w ≤ 7) := propext (iI_le hw (b := 7) ⟨by decide, by decide⟩)
  have hin : f_X11_in (iI w).toInt64 0 7 = some (if 0 ≤ w ∧ w ≤ 7 then 1 else 0) := s_in32 hw (l := 0) (h := 7) ⟨by decide, by decide⟩ ⟨by decide, by decide⟩
  rw [hin, Option.bind_some]
  simp only [hlt, hle]
  by_cases cw : 0 ≤ w ∧ w ≤ 7
  · rw [if_neg (show ¬ w < 0 by omega), if_pos cw.2, if_pos cw, if_neg j1]
    obtain ⟨b, s, hs⟩ := spl_ex p1 (by omega) p3 p4
    have bd := spl_bd hs (by omega)
    obtain ⟨k1, k2⟩ := s_spl hN (by omega) p3 hs
    obtain ⟨A, a1, a2⟩ := s_markCubes hN (p := p) (by omega) p2 m_marks
    rw [k1, k2, Option.bind_some, Option.bind_some, a1]
    simp only [Option.bind_some]
    have cubs : ∀ n : Nat, 1 ≤ n → n < p → ∃ y z : Int32, f_X10_markAt (nI n) A = some y ∧ f_X11_isCube N (nI n) (iI p) = some z ∧ ((y = 0 ∧ z = 1) ∨ (y = 3 ∧ z = 0)) := by
      intro n hn hnp
      have ck := cub_kub p1 p2 p3 p4 (n := n) hn hnp
      have sc := s_isCube hN p1 p2 (n := n) hn hnp
      rcases a2 n (by omega) with ⟨q1, q2⟩ | ⟨q1, q2⟩
      · exact ⟨0, 1, by rw [s_markAt (by omega), q1], by rw [iI_nI]; exact sc.1 (ck.mp q2), Or.inl ⟨rfl, rfl⟩⟩
      · exact ⟨3, 0, by rw [s_markAt (by omega), q1], by rw [iI_nI]; exact sc.2 (fun z => q2 (ck.mpr z)), Or.inr ⟨rfl, rfl⟩⟩
    have w8 : w = 0 ∨ w = 1 ∨ w = 2 ∨ w = 3 ∨ w = 4 ∨ w = 5 ∨ w = 6 ∨ w = 7 := by omega
    rcases w8 with rfl | rfl | rfl | rfl | rfl | rfl | rfl | rfl
    · simp only [show (iI 0 = (0 : Int32)) = True from eq_true (by decide), if_true, if_false]
      exact ⟨_, _, rfl, rfl, rfl, hR0⟩
    · simp only [show (iI 1 = (0 : Int32)) = False from eq_false (by decide), show (iI 1 = (1 : Int32)) = True from eq_true (by decide), if_true, if_false]
      exact ⟨_, _, rfl, rfl, rfl, hR0⟩
    · simp only [show (iI 2 = (0 : Int32)) = False from eq_false (by decide), show (iI 2 = (1 : Int32)) = False from eq_false (by decide), show (iI 2 = (2 : Int32)) = True from eq_true (by decide), if_true, if_false]
      exact ⟨_, _, rfl, rfl, rfl, hR0⟩
    · have d : (lI (b : Int) / (3 : Int64)).toInt32 = (lI (b : Int)).toInt32 / (3 : Int32) := by
        rw [show (3 : Int64) = lI 3 from rfl, lI_div ⟨by omega, by omega⟩ ⟨by decide, by decide⟩, lI_i, lI_i, show (3 : Int32) = iI 3 from rfl, iI_div ⟨by omega, by omega⟩ ⟨by decide, by decide⟩]
      simp only [show (iI 3 = (0 : Int32)) = False from eq_false (by decide), show (iI 3 = (1 : Int32)) = False from eq_false (by decide), show (iI 3 = (2 : Int32)) = False from eq_false (by decide), show (iI 3 = (3 : Int32)) = True from eq_true (by decide), if_true, if_false, d]
      exact ⟨_, _, rfl, rfl, rfl, hR0⟩
    · obtain ⟨y, z, q1, q2, q3⟩ := cubs 2 (by omega) (by omega)
      have q1' : f_X10_markAt (2 : Int32) A = some y := q1
      have q2' : f_X11_isCube N (2 : Int32) (iI p) = some z := q2
      unfold f_X10_bit
      simp only [show (iI 4 = (0 : Int32)) = False from eq_false (by decide), show (iI 4 = (1 : Int32)) = False from eq_false (by decide), show (iI 4 = (2 : Int32)) = False from eq_false (by decide), show (iI 4 = (3 : Int32)) = False from eq_false (by decide), show (iI 4 = (4 : Int32)) = True from eq_true (by decide), if_true, if_false, q1', q2', Option.bind_some]
      rcases q3 with ⟨rfl, rfl⟩ | ⟨rfl, rfl⟩
      · rw [if_pos rfl, if_neg j1, if_neg j1]
        exact ⟨_, _, rfl, rfl, rfl, hR0⟩
      · rw [if_neg (show ¬ (3 : Int32) = 0 by decide), if_pos rfl]
        exact ⟨_, _, rfl, rfl, rfl, hR0⟩
    · obtain ⟨y, z, q1, q2, q3⟩ := cubs 3 (by omega) (by omega)
      have q1' : f_X10_markAt (3 : Int32) A = some y := q1
      have q2' : f_X11_isCube N (3 : Int32) (iI p) = some z := q2
      unfold f_X10_bit
      simp only [show (iI 5 = (0 : Int32)) = False from eq_false (by decide), show (iI 5 = (1 : Int32)) = False from eq_false (by decide), show (iI 5 = (2 : Int32)) = False from eq_false (by decide), show (iI 5 = (3 : Int32)) = False from eq_false (by decide), show (iI 5 = (4 : Int32)) = False from eq_false (by decide), show (iI 5 = (5 : Int32)) = True from eq_true (by decide), if_true, if_false, q1', q2', Option.bind_some]
      rcases q3 with ⟨rfl, rfl⟩ | ⟨rfl, rfl⟩
      · rw [if_pos rfl, if_neg j1, if_neg j1]
        exact ⟨_, _, rfl, rfl, rfl, hR0⟩
      · rw [if_neg (show ¬ (3 : Int32) = 0 by decide), if_pos rfl]
        exact ⟨_, _, rfl, rfl, rfl, hR0⟩
    · obtain ⟨n0, -, -, -, q1, q2⟩ := s_leastC hN p1 p2 p3 p4 a2 true
      have q1' : f_X10_leastMarked N (iI p) (1 : Int32) A = some (nI n0) := q1
      have q2' : f_X11_leastCube N (iI p) (1 : Int32) = some (nI n0) := q2
      simp only [show (iI 6 = (0 : Int32)) = False from eq_false (by decide), show (iI 6 = (1 : Int32)) = False from eq_false (by decide), show (iI 6 = (2 : Int32)) = False from eq_false (by decide), show (iI 6 = (3 : Int32)) = False from eq_false (by decide), show (iI 6 = (4 : Int32)) = False from eq_false (by decide), show (iI 6 = (5 : Int32)) = False from eq_false (by decide), show (iI 6 = (6 : Int32)) = True from eq_true (by decide), if_true, if_false, q1', q2', Option.bind_some]
      exact ⟨_, _, rfl, rfl, rfl, hR0⟩
    · obtain ⟨n0, -, -, -, q1, q2⟩ := s_leastC hN p1 p2 p3 p4 a2 false
      have q1' : f_X10_leastMarked N (iI p) (0 : Int32) A = some (nI n0) := q1
      have q2' : f_X11_leastCube N (iI p) (0 : Int32) = some (nI n0) := q2
      simp only [show (iI 7 = (0 : Int32)) = False from eq_false (by decide), show (iI 7 = (1 : Int32)) = False from eq_false (by decide), show (iI 7 = (2 : Int32)) = False from eq_false (by decide), show (iI 7 = (3 : Int32)) = False from eq_false (by decide), show (iI 7 = (4 : Int32)) = False from eq_false (by decide), show (iI 7 = (5 : Int32)) = False from eq_false (by decide), show (iI 7 = (6 : Int32)) = False from eq_false (by decide), if_true, if_false, q1', q2', Option.bind_some]
      exact ⟨_, _, rfl, rfl, rfl, hR0⟩
  · have cA : ∀ {α : Type} {P R : Option α}, (if w < 0 then P else if w ≤ 7 then R else P) = P := by
      intro α P R
      by_cases c1 : w < 0
      · rw [if_pos c1]
      · rw [if_neg c1, if_neg (by omega)]
    rw [cA, if_neg cw, if_pos rfl]
    exact ⟨_, _, rfl, rfl, rfl, hR0⟩
