/-! ===== shifts of longs, rounding to a float ===== -/
theorem lbv (k : Nat) : (lI (k : Int)).toBitVec = BitVec.ofNat 64 k := by
  show (Int64.ofInt (k : Int)).toBitVec = _
  rw [Int64.ofInt_eq_ofNat]; rfl
theorem sh_amt : ∀ k, k < 64 → (((nI k).toInt64 &&& 63).toBitVec.smod 64) = BitVec.ofNat 64 k := by decide +kernel
theorem l_shr {n k : Nat} (hn : n < 2 ^ 63) (hk : k < 64) : lI (n : Int) >>> ((nI k).toInt64 &&& 63) = lI ((n / 2 ^ k : Nat) : Int) := by
  have hd := Nat.div_le_self n (2 ^ k)
  apply Int64.toBitVec_inj.mp
  rw [Int64.toBitVec_shiftRight, lbv, lbv, sh_amt k hk]
  apply BitVec.eq_of_toNat_eq
  rw [BitVec.sshiftRight_eq', BitVec.sshiftRight_eq_of_msb_false]
  · simp only [BitVec.toNat_ushiftRight, BitVec.toNat_ofNat]
    rw [Nat.mod_eq_of_lt (show k < 2 ^ 64 by omega), Nat.mod_eq_of_lt (show n < 2 ^ 64 by omega), Nat.mod_eq_of_lt (show n / 2 ^ k < 2 ^ 64 by omega), Nat.shiftRight_eq_div_pow]
  · rw [BitVec.msb_eq_decide, BitVec.toNat_ofNat]
    simp only [decide_eq_false_iff_not]
    omega
theorem l_shl {n k : Nat} (hn : n < 2 ^ 63) (hk : k < 64) : lI (n : Int) <<< ((nI k).toInt64 &&& 63) = lI ((n * 2 ^ k : Nat) : Int) := by
  apply Int64.toBitVec_inj.mp
  rw [Int64.toBitVec_shiftLeft, lbv, lbv, sh_amt k hk]
  apply BitVec.eq_of_toNat_eq
  rw [BitVec.shiftLeft_eq']
  simp only [BitVec.toNat_shiftLeft, BitVec.toNat_ofNat]
  rw [Nat.mod_eq_of_lt (show k < 2 ^ 64 by omega), Nat.mod_eq_of_lt (show n < 2 ^ 64 by omega), Nat.shiftLeft_eq]
theorem l_and {n k : Nat} (hn : n < 2 ^ 63) (hk : k ≤ 63) : lI (n : Int) &&& lI ((2 ^ k - 1 : Nat) : Int) = lI ((n % 2 ^ k : Nat) : Int) := by
  have h2 : 2 ^ k ≤ 2 ^ 63 := Nat.pow_le_pow_right (by decide) hk
  have hm := Nat.mod_le n (2 ^ k)
  apply Int64.toBitVec_inj.mp
  rw [Int64.toBitVec_and, lbv, lbv, lbv]
  apply BitVec.eq_of_toNat_eq
  simp only [BitVec.toNat_and, BitVec.toNat_ofNat]
  rw [Nat.mod_eq_of_lt (show n < 2 ^ 64 by omega), Nat.mod_eq_of_lt (show 2 ^ k - 1 < 2 ^ 64 by omega), Nat.mod_eq_of_lt (show n % 2 ^ k < 2 ^ 64 by omega), Nat.and_two_pow_sub_one_eq_mod]
theorem l_ndiv {n q : Nat} (hn : n < 2 ^ 63) (hq : q < 2 ^ 63) : lI n / lI q = lI ((n / q : Nat) : Int) := by
  rw [lI_div ⟨by omega, by omega⟩ ⟨by omega, by omega⟩, Int.tdiv_eq_ediv_of_nonneg (by omega)]
  rfl
theorem l_nmod {n q : Nat} (hn : n < 2 ^ 63) (hq : q < 2 ^ 63) : lI n - lI n / lI q * lI q = lI ((n % q : Nat) : Int) := by
  rw [lI_rem ⟨by omega, by omega⟩ ⟨by omega, by omega⟩, Int.tmod_eq_emod_of_nonneg (by omega)]
  rfl
/-- n measured by 2 to the k, to the nearest, ties to even; st: something is left behind n -/
def fup (n k : Nat) (st : Bool) : Bool := decide (2 ^ (k - 1) < n % 2 ^ k) || (decide (n % 2 ^ k = 2 ^ (k - 1)) && (st || decide (n / 2 ^ k % 2 = 1)))
def fres (n k : Nat) (st : Bool) : Nat := n / 2 ^ k + (if fup n k st = true then 1 else 0)
theorem near_fres {A B k : Nat} (hB : 0 < B) (hk : 1 ≤ k) : FP.Core.nearest A (B * 2 ^ k) = fres (A / B) k (decide (A % B ≠ 0)) := by
  obtain ⟨h, hh⟩ : ∃ h, h = 2 ^ (k - 1) := ⟨_, rfl⟩
  have e2 : 2 ^ k = 2 * h := by rw [hh, ← Nat.pow_succ', show (k - 1).succ = k by omega]
  unfold FP.Core.nearest fres fup
  rw [← Nat.div_div_eq_div_mul, Nat.mod_mul, ← hh]
  obtain ⟨m, hm⟩ : ∃ m, m = A / B % 2 ^ k := ⟨_, rfl⟩
  obtain ⟨q, hq⟩ : ∃ q, q = A / B / 2 ^ k := ⟨_, rfl⟩
  obtain ⟨r, hr⟩ : ∃ r, r = A % B := ⟨_, rfl⟩
  have rl : r < B := by rw [hr]; exact Nat.mod_lt _ hB
  rw [← hm, ← hq, ← hr, e2]
  have e3 : B * (2 * h) = 2 * (B * h) := by grind
  rw [e3]
  rcases Nat.lt_trichotomy m h with c | c | c
  · have l : B * (m + 1) ≤ B * h := Nat.mul_le_mul_left _ c
    rw [Nat.mul_succ] at l
    have f : (decide (h < m) || (decide (m = h) && (decide (r ≠ 0) || decide (q % 2 = 1)))) = false := by
      rw [decide_eq_false (show ¬ h < m by omega), decide_eq_false (show ¬ m = h by omega)]; rfl
    rw [if_pos (by omega), f]; rfl
  · rw [c, decide_eq_false (show ¬ h < h by omega), decide_eq_true (rfl : h = h), Bool.false_or, Bool.true_and]
    by_cases r0 : r = 0
    · rw [decide_eq_false (show ¬ r ≠ 0 by omega), Bool.false_or, if_neg (by omega), if_neg (by omega)]
      by_cases q1 : q % 2 = 1
      · rw [decide_eq_true q1, if_pos rfl, q1]
      · rw [decide_eq_false q1, if_neg (by decide), show q % 2 = 0 by omega]
    · rw [decide_eq_true r0, Bool.true_or, if_neg (by omega), if_pos (by omega), if_pos rfl]
  · have l : B * (h + 1) ≤ B * m := Nat.mul_le_mul_left _ c
    rw [Nat.mul_succ] at l
    rw [decide_eq_true c, Bool.true_or, if_neg (by omega), if_pos (by omega), if_pos rfl]
theorem rr_key {A B k : Nat} {e : Int} (s : Bool) (hB : 0 < B) (h1 : 8388608 * 2 ^ k ≤ A / B) (h2 : A / B < 16777216 * 2 ^ k) (hq : -149 ≤ e + k) : FP.Core.roundRatio FP.Core.b32 s A B e = FP.Core.settle FP.Core.b32 s (FP.Core.nearest A (B * 2 ^ k)) (e + k) := by
  have pk := Nat.two_pow_pos k
  have a1 : 8388608 * 2 ^ k * B ≤ A := (Nat.le_div_iff_mul_le hB).mp h1
  have a2 : A < 16777216 * 2 ^ k * B := (Nat.div_lt_iff_lt_mul hB).mp h2
  have hA : 0 < A := Nat.lt_of_lt_of_le (Nat.mul_pos (by omega) hB) a1
  have b1 : FP.Core.Below A B ((e + k) - e + (FP.Core.b32.p : Nat)) := by
    have : (e + k) - e + (FP.Core.b32.p : Nat) = ((k + 24 : Nat) : Int) - ((0 : Nat) : Int) := by
      show (e + k) - e + ((24 : Nat) : Int) = _
      omega
    rw [this, FP.Core.below_iff, Nat.pow_zero, Nat.mul_one, Nat.pow_add]
    have : B * (2 ^ k * 2 ^ 24) = 16777216 * 2 ^ k * B := by grind
    omega
  have b2 : ¬ FP.Core.Below A B ((e + k) - e + (((FP.Core.b32.p : Nat) : Int) - 1)) := by
    have : (e + k) - e + (((FP.Core.b32.p : Nat) : Int) - 1) = ((k + 23 : Nat) : Int) - ((0 : Nat) : Int) := by
      show (e + k) - e + (((24 : Nat) : Int) - 1) = _
      omega
    rw [this, FP.Core.below_iff, Nat.pow_zero, Nat.mul_one, Nat.pow_add]
    have : B * (2 ^ k * 2 ^ 23) = 8388608 * 2 ^ k * B := by grind
    omega
  have qe : FP.Core.quantum FP.Core.b32 A B e = e + k := FP.Core.quantum_eq hA hB hq b1 (Or.inr b2)
  unfold FP.Core.roundRatio
  rw [if_neg (by omega), qe]
  unfold FP.Core.roundAt FP.Core.unitsNum FP.Core.unitsDen
  rw [show (e - (e + k)).toNat = 0 by omega, show (e + k - e).toNat = k by omega, Nat.pow_zero, Nat.mul_one]
def nx (x : Nat) : Nat := if x = 16777216 then 8388608 else x
def nq (x : Nat) (q : Int) : Int := if x = 16777216 then q + 1 else q
theorem settle_nx (s : Bool) {x : Nat} {q : Int} (hx : x ≤ 16777216) (hq : q + 1 ≤ 104) : FP.Core.settle FP.Core.b32 s x q = .fin s (nx x) (nq x q) := by
  unfold FP.Core.settle FP.Core.bound nx nq
  have e : (2 : Nat) ^ FP.Core.b32.p = 16777216 := by decide
  have e2 : FP.Core.b32.qmax = 104 := by decide
  have e3 : FP.Core.b32.tails = 8388608 := by decide
  rw [e, e2, e3]
  by_cases c : x = 16777216
  · rw [if_neg (by omega), if_pos (by omega), if_pos c, if_pos c]
  · rw [if_pos (by omega), if_pos (by omega), if_neg c, if_neg c]
