/-! ===== powers by a whole prime ===== -/
theorem full_bit {p n : Nat} (hp : 2 ≤ p) : (2 ^ p - 2).testBit n = true ↔ 1 ≤ n ∧ n < p := by
  have q : (2 ^ p - 2) = 2 ^ p - (1 + 1) := rfl
  rw [q, Nat.testBit_two_pow_sub_succ (x := 1) (by exact Nat.one_lt_two_pow (by omega)), Bool.and_eq_true, decide_eq_true_iff, Bool.not_eq_true']
  cases n with
  | zero => exact ⟨fun z => absurd z.2 (by decide), fun z => absurd z.1 (by omega)⟩
  | succ n =>
    have : Nat.testBit 1 (n + 1) = false := by rw [Nat.testBit_succ, show 1 / 2 = 0 from rfl, Nat.zero_testBit]
    exact ⟨fun z => ⟨by omega, z.1⟩, fun z => ⟨z.2, this⟩⟩
def ff (p n : Nat) : Nat := if 1 ≤ n ∧ n < p ∧ n ^ (p - 1) % p = 1 then 2 ^ n else 0
def ferk (p : Nat) : Bool := decide (p < 7) || decide (997 < p) || decide (p % 3 ≠ 1) || !(pl_prime p) || decide (mask (ff p) = 2 ^ p - 2)
theorem ferk_two : ∀ i, i < 32 → ∀ j, j < 32 → ferk (32 * i + j) = true := by decide +kernel
theorem fer_nat {p : Nat} (h7 : 7 ≤ p) (hp : p ≤ 997) (h3 : p % 3 = 1) (hr : rp p) {n : Nat} (hn : 1 ≤ n) (hn' : n < p) : n ^ (p - 1) % p = 1 := by
  have h := ferk_two (p / 32) (by omega) (p % 32) (by omega)
  rw [show 32 * (p / 32) + p % 32 = p by omega] at h
  unfold ferk at h
  rw [(pl_prime_iff (by omega)).mpr hr] at h
  simp only [Bool.or_eq_true, decide_eq_true_eq, Bool.not_true, Bool.false_eq_true, or_false] at h
  have e : mask (ff p) = 2 ^ p - 2 := by
    rcases h with ((h | h) | h) | h
    · omega
    · omega
    · omega
    · exact h
  have b := (full_bit (p := p) (n := n) (by omega)).mpr ⟨hn, hn'⟩
  rw [← e, mask_bit] at b
  obtain ⟨t, -, t2⟩ := b
  unfold ff at t2
  rw [tb_if] at t2
  obtain ⟨⟨q1, q2, q3⟩, rfl⟩ := t2
  exact q3
/-- w stands for the third root of one by the prime (a, b) of norm p -/
def wOf (p : Nat) (a b : Int) (w : Nat) : Prop := w < p ∧ (p : Int) ∣ a + b * w ∧ (p : Int) ∣ (w : Int) * w + w + 1
theorem w_ed {p w : Nat} {a b : Int} (h : wOf p a b w) {x y : Int} (hd : ed (a, b) (x, y)) : (p : Int) ∣ x + y * w := by
  obtain ⟨h1, ⟨k1, e1⟩, ⟨k2, e2⟩⟩ := h
  obtain ⟨⟨c, d⟩, hq⟩ := hd
  have ex : x = a * c - b * d := congrArg Prod.fst hq
  have ey : y = a * d + b * c - b * d := congrArg Prod.snd hq
  refine ⟨k1 * (c + d * w) - b * d * k2, ?_⟩
  have : x + y * w = (a + b * w) * (c + d * w) - b * d * ((w : Int) * w + w + 1) := by rw [ex, ey]; grind
  rw [this, e1, e2]
  grind
theorem alg1 (P k5 i b k1 X : Int) : P * k5 * i * i - (b * i + 1) * (P * k1) * X = P * (k5 * i * i - (b * i + 1) * k1 * X) := by grind
theorem w_ex {p : Nat} (h7 : 7 ≤ p) (hp : p ≤ 997) (h3 : p % 3 = 1) (hr : rp p) {a : Int} {b : Nat} (hb : 1 ≤ b) (hb' : b < p) (hn : a * a - a * b + b * b = p) : wOf p a b (((p : Int) - a % p).toNat * (b ^ (p - 2) % p) % p) := by
  obtain ⟨i, hi⟩ : ∃ i, i = b ^ (p - 2) % p := ⟨_, rfl⟩
  obtain ⟨r, hr'⟩ : ∃ r, r = ((p : Int) - a % p).toNat := ⟨_, rfl⟩
  rw [← hi, ← hr']
  have hrI : (r : Int) = p - a % p := by
    have := Int.emod_lt_of_pos a (show (0 : Int) < p by omega)
    omega
  have fi : (b * i) % p = 1 := by
    have := fer_nat h7 hp h3 hr hb hb'
    rw [hi, Nat.mul_mod, Nat.mod_mod, ← Nat.mul_mod, ← Nat.pow_succ', show (p - 2).succ = p - 1 by omega]
    exact this
  have d1 : (p : Int) ∣ (b : Int) * i - 1 := by
    refine ⟨((b * i / p : Nat) : Int), ?_⟩
    have := Nat.div_add_mod (b * i) p
    have e : ((p * (b * i / p) + b * i % p : Nat) : Int) = ((b * i : Nat) : Int) := congrArg _ this
    rw [fi] at e
    simp only [Int.natCast_add, Int.natCast_mul] at e
    omega
  have d2 : (p : Int) ∣ a + r := by
    refine ⟨a / p + 1, ?_⟩
    have := Int.mul_ediv_add_emod a p
    rw [hrI, Int.mul_add]
    omega
  obtain ⟨w, hw⟩ : ∃ w, w = r * i % p := ⟨_, rfl⟩
  rw [← hw]
  have d3 : (p : Int) ∣ (r : Int) * i - w := by
    refine ⟨((r * i / p : Nat) : Int), ?_⟩
    have := Nat.div_add_mod (r * i) p
    have e : ((p * (r * i / p) + r * i % p : Nat) : Int) = ((r * i : Nat) : Int) := congrArg _ this
    rw [← hw] at e
    simp only [Int.natCast_add, Int.natCast_mul] at e
    omega
  obtain ⟨k1, e1⟩ := d1
  obtain ⟨k2, e2⟩ := d2
  obtain ⟨k3, e3⟩ := d3
  have f1 : (p : Int) ∣ a + b * w := by
    refine ⟨k2 - b * k3 + r * k1, ?_⟩
    have : a + (b : Int) * w = (a + r) - b * (r * i - w) + r * (b * i - 1) := by grind
    rw [this, e1, e2, e3]
    grind
  refine ⟨by rw [hw]; exact Nat.mod_lt _ (by omega), f1, ?_⟩
  obtain ⟨k4, e4⟩ := f1
  have f2 : (p : Int) ∣ (b : Int) * b * ((w : Int) * w + w + 1) := by
    refine ⟨1 + k4 * (b * w - a + b), ?_⟩
    have : (b : Int) * b * ((w : Int) * w + w + 1) = (a * a - a * b + b * b) + (a + b * w) * (b * w - a + b) := by grind
    rw [this, hn, e4]
    grind
  obtain ⟨k5, e5⟩ := f2
  refine ⟨k5 * i * i - (b * i + 1) * k1 * ((w : Int) * w + w + 1), ?_⟩
  have : (w : Int) * w + w + 1 = ((b : Int) * b * ((w : Int) * w + w + 1)) * i * i - (b * i + 1) * (b * i - 1) * ((w : Int) * w + w + 1) := by grind
  rw [e5, e1] at this
  exact this.trans (alg1 _ _ _ _ _ _)
