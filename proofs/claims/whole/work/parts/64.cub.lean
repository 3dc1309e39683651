/-! ===== third powers by a whole prime ===== -/
def orF (f : Nat → Nat) : Nat → Nat
  | 0 => 0
  | j + 1 => orF f j ||| f j
theorem orF_bit (f : Nat → Nat) (n : Nat) : ∀ j : Nat, (orF f j).testBit n = true ↔ ∃ t, t < j ∧ (f t).testBit n = true := by
  intro j
  induction j with
  | zero => exact ⟨fun h => by rw [show orF f 0 = 0 from rfl, Nat.zero_testBit] at h; exact absurd h (by decide), fun ⟨t, h, _⟩ => absurd h (by omega)⟩
  | succ j ih =>
    show (orF f j ||| f j).testBit n = true ↔ _
    rw [Nat.testBit_or, Bool.or_eq_true, ih]
    constructor
    · rintro (⟨t, h1, h2⟩ | h)
      · exact ⟨t, by omega, h2⟩
      · exact ⟨j, by omega, h⟩
    · rintro ⟨t, h1, h2⟩
      by_cases c : t = j
      · right; rw [← c]; exact h2
      · left; exact ⟨t, by omega, h2⟩
def mask (f : Nat → Nat) : Nat := orF (fun a => orF (fun b => f (32 * a + b)) 32) 32
theorem mask_bit (f : Nat → Nat) (n : Nat) : (mask f).testBit n = true ↔ ∃ t, t < 1024 ∧ (f t).testBit n = true := by
  unfold mask
  rw [orF_bit]
  constructor
  · rintro ⟨a, h1, h2⟩
    rw [orF_bit] at h2
    obtain ⟨b, h3, h4⟩ := h2
    exact ⟨32 * a + b, by omega, h4⟩
  · rintro ⟨t, h1, h2⟩
    refine ⟨t / 32, by omega, ?_⟩
    rw [orF_bit]
    exact ⟨t % 32, by omega, by rw [show 32 * (t / 32) + t % 32 = t by omega]; exact h2⟩
def cf (p t : Nat) : Nat := if 1 ≤ t ∧ t < p then 2 ^ (t ^ 3 % p) else 0
def kf (p n : Nat) : Nat := if 1 ≤ n ∧ n < p ∧ n ^ ((p - 1) / 3) % p = 1 then 2 ^ n else 0
def cubk (p : Nat) : Bool := decide (p < 7) || decide (997 < p) || decide (p % 3 ≠ 1) || !(pl_prime p) || (decide (mask (cf p) = mask (kf p)) && decide (mask (kf p) ≠ 2 ^ p - 2))
theorem cubk_two : ∀ i, i < 32 → ∀ j, j < 32 → cubk (32 * i + j) = true := by decide +kernel
def isCub (p n : Nat) : Prop := ∃ t, 1 ≤ t ∧ t < p ∧ t ^ 3 % p = n
def isKub (p n : Nat) : Prop := n ^ ((p - 1) / 3) % p = 1
theorem tb_if {c : Prop} [Decidable c] (k n : Nat) : (if c then 2 ^ k else 0).testBit n = true ↔ c ∧ n = k := by
  by_cases h : c
  · rw [if_pos h, Nat.testBit_two_pow, decide_eq_true_iff]
    exact ⟨fun z => ⟨h, z.symm⟩, fun z => z.2.symm⟩
  · rw [if_neg h, Nat.zero_testBit]
    exact ⟨fun z => absurd z (by decide), fun z => absurd z.1 h⟩
theorem cubk_all {p : Nat} (h7 : 7 ≤ p) (hp : p ≤ 997) (h3 : p % 3 = 1) (hr : rp p) : mask (cf p) = mask (kf p) ∧ mask (kf p) ≠ 2 ^ p - 2 := by
  have h := cubk_two (p / 32) (by omega) (p % 32) (by omega)
  rw [show 32 * (p / 32) + p % 32 = p by omega] at h
  unfold cubk at h
  rw [(pl_prime_iff (by omega)).mpr hr] at h
  simp only [Bool.or_eq_true, Bool.and_eq_true, decide_eq_true_eq, Bool.not_true, Bool.false_eq_true, or_false] at h
  rcases h with ((h | h) | h) | h
  · omega
  · omega
  · omega
  · exact h
theorem cub_kub {p : Nat} (h7 : 7 ≤ p) (hp : p ≤ 997) (h3 : p % 3 = 1) (hr : rp p) {n : Nat} (hn : 1 ≤ n) (hn' : n < p) : isCub p n ↔ isKub p n := by
  have e : (mask (cf p)).testBit n = (mask (kf p)).testBit n := congrArg (fun z => Nat.testBit z n) (cubk_all h7 hp h3 hr).1
  have e2 : (mask (cf p)).testBit n = true ↔ (mask (kf p)).testBit n = true := by rw [e]
  rw [mask_bit, mask_bit] at e2
  constructor
  · rintro ⟨t, t1, t2, t3⟩
    obtain ⟨k, k1, k2⟩ := e2.mp ⟨t, by omega, by unfold cf; rw [tb_if]; exact ⟨⟨t1, t2⟩, t3.symm⟩⟩
    unfold kf at k2
    rw [tb_if] at k2
    obtain ⟨⟨q1, q2, q3⟩, rfl⟩ := k2
    exact q3
  · intro h
    obtain ⟨t, t1, t2⟩ := e2.mpr ⟨n, by omega, by unfold kf; rw [tb_if]; exact ⟨⟨hn, hn', h⟩, rfl⟩⟩
    unfold cf at t2
    rw [tb_if] at t2
    exact ⟨t, t2.1.1, t2.1.2, t2.2.symm⟩
theorem kub_not {p : Nat} (h7 : 7 ≤ p) (hp : p ≤ 997) (h3 : p % 3 = 1) (hr : rp p) : ∃ n, 2 ≤ n ∧ n < p ∧ ¬ isKub p n := by
  have e := (cubk_all h7 hp h3 hr).2
  refine Classical.byContradiction fun hno => e (Nat.eq_of_testBit_eq fun n => ?_)
  have all : ∀ n, 1 ≤ n → n < p → isKub p n := by
    intro n n1 n2
    by_cases c : n = 1
    · rw [c]; show 1 ^ _ % p = 1; rw [Nat.one_pow]; exact Nat.mod_eq_of_lt (by omega)
    · exact Classical.byContradiction fun z => hno ⟨n, by omega, n2, z⟩
  have e1 : (mask (kf p)).testBit n = true ↔ 1 ≤ n ∧ n < p := by
    rw [mask_bit]
    constructor
    · rintro ⟨t, t1, t2⟩
      unfold kf at t2
      rw [tb_if] at t2
      obtain ⟨⟨q1, q2, q3⟩, rfl⟩ := t2
      exact ⟨q1, q2⟩
    · rintro ⟨n1, n2⟩
      exact ⟨n, by omega, by unfold kf; rw [tb_if]; exact ⟨⟨n1, n2, all n n1 n2⟩, rfl⟩⟩
  have e2 : (2 ^ p - 2).testBit n = true ↔ 1 ≤ n ∧ n < p := by
    have q : (2 ^ p - 2) = 2 ^ p - (1 + 1) := rfl
    rw [q, Nat.testBit_two_pow_sub_succ (x := 1) (by exact Nat.one_lt_two_pow (by omega)), Bool.and_eq_true, decide_eq_true_iff, Bool.not_eq_true']
    cases n with
    | zero => exact ⟨fun z => absurd z.2 (by decide), fun z => absurd z.1 (by omega)⟩
    | succ n =>
      have : Nat.testBit 1 (n + 1) = false := by rw [Nat.testBit_succ, show 1 / 2 = 0 from rfl, Nat.zero_testBit]
      exact ⟨fun z => ⟨by omega, z.1⟩, fun z => ⟨z.2, this⟩⟩
  cases q1 : (mask (kf p)).testBit n <;> cases q2 : (2 ^ p - 2).testBit n
  · rfl
  · exact absurd (e1.mpr (e2.mp q2)) (by rw [q1]; decide)
  · exact absurd (e2.mpr (e1.mp q1)) (by rw [q2]; decide)
  · rfl
theorem cub_last {p : Nat} (h7 : 7 ≤ p) : isCub p (p - 1) := by
  refine ⟨p - 1, by omega, by omega, ?_⟩
  obtain ⟨k, rfl⟩ : ∃ k, p = k + 1 := ⟨p - 1, by omega⟩
  rw [show k + 1 - 1 = k by omega]
  have e : k ^ 3 = (k + 1) * (k * (k - 1)) + k := by
    obtain ⟨q, rfl⟩ : ∃ q, k = q + 1 := ⟨k - 1, by omega⟩
    rw [show q + 1 - 1 = q by omega]
    grind
  rw [e, Nat.mul_add_mod, Nat.mod_eq_of_lt (by omega)]
