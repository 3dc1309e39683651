/-! ===== the reference's fits ===== -/
section FIT
variable {N : Nat}
theorem fits_175 {x : Nat} {q : Int} (hx : x ≤ 16777216) : f_X11_fits_175 N (lI x) (iI q) = some (lI (nx x), iI (nq x q)) := by
  unfold f_X11_fits_175 nx nq
  by_cases c : x = 16777216
  · have c' : lI (x : Int) = (16777216 : Int64) := by rw [c]; rfl
    rw [if_pos c', if_pos c, if_pos c, c', show (1 : Int32) = iI 1 from rfl, iI_add]; rfl
  · have c' : ¬ lI (x : Int) = (16777216 : Int64) := by
      intro z
      have := (lI_eq (a := (x : Int)) (b := 16777216) ⟨by omega, by omega⟩ ⟨by decide, by decide⟩).mp z
      omega
    rw [if_neg c', if_neg c, if_neg c]
theorem fits_end {n k : Nat} {e : Int} {st : Bool} (hk : 1 ≤ k) (hk' : k ≤ 38) (h2 : n < 16777216 * 2 ^ k) (f : Nat) : f_X11_fits_3 N (f + 1) (lI n) (iI e) (bI st) (nI k) = some (lI (nx (fres n k st)), iI (nq (fres n k st) (e + k))) := by
  obtain ⟨j, rfl⟩ : ∃ j, k = j + 1 := ⟨k - 1, by omega⟩
  have p38 : 2 ^ (j + 1) ≤ 2 ^ 38 := Nat.pow_le_pow_right (by decide) hk'
  have pj := Nat.two_pow_pos j
  have pe : 2 ^ (j + 1) = 2 * 2 ^ j := by rw [Nat.pow_succ]; omega
  have ql : n / 2 ^ (j + 1) < 16777216 := (Nat.div_lt_iff_lt_mul (Nat.two_pow_pos _)).mpr h2
  have ml : n % 2 ^ (j + 1) < 2 ^ (j + 1) := Nat.mod_lt _ (Nat.two_pow_pos _)
  have sr : lI (n : Int) >>> ((nI (j + 1)).toInt64 &&& 63) = lI ((n / 2 ^ (j + 1) : Nat) : Int) := l_shr (by omega) (by omega)
  have s1 : (1 : Int64) <<< ((nI j).toInt64 &&& 63) = lI ((2 ^ j : Nat) : Int) := by
    have := l_shl (n := 1) (k := j) (by decide) (by omega)
    rw [Nat.one_mul] at this
    exact this
  have mk : (2 : Int64) * lI ((2 ^ j : Nat) : Int) - (1 : Int64) = lI ((2 ^ (j + 1) - 1 : Nat) : Int) := by
    rw [show (2 : Int64) = lI 2 from rfl, show (1 : Int64) = lI 1 from rfl, lI_mul, lI_sub]
    exact congrArg lI (by omega)
  have an : lI (n : Int) &&& lI ((2 ^ (j + 1) - 1 : Nat) : Int) = lI ((n % 2 ^ (j + 1) : Nat) : Int) := l_and (by omega) (by omega)
  have ad : iI e + nI (j + 1) = iI (e + ((j + 1 : Nat) : Int)) := by rw [iI_nI, iI_add]
  have md : lI ((n / 2 ^ (j + 1) : Nat) : Int) - lI ((n / 2 ^ (j + 1) : Nat) : Int) / (2 : Int64) * (2 : Int64) = lI ((n / 2 ^ (j + 1) % 2 : Nat) : Int) := l_nmod (q := 2) (by omega) (by decide)
  obtain ⟨Q, hQ⟩ : ∃ Q, Q = n / 2 ^ (j + 1) := ⟨_, rfl⟩
  obtain ⟨M, hM⟩ : ∃ M, M = n % 2 ^ (j + 1) := ⟨_, rfl⟩
  obtain ⟨H, hH⟩ : ∃ H, H = 2 ^ j := ⟨_, rfl⟩
  have c0 : lI ((n / 2 ^ (j + 1) : Nat) : Int) < (16777216 : Int64) := (lI_lt (b := 16777216) ⟨by omega, by omega⟩ ⟨by decide, by decide⟩).mpr (by omega)
  have up : f_X11_fits_154 N (1 : Int32) (lI (Q : Int)) (iI (e + ((j + 1 : Nat) : Int))) = some (lI (nx (Q + 1)), iI (nq (Q + 1) (e + ((j + 1 : Nat) : Int)))) := by
    unfold f_X11_fits_154
    rw [if_neg j1, show lI (Q : Int) + (1 : Int64) = lI ((Q + 1 : Nat) : Int) by rw [show (1 : Int64) = lI 1 from rfl, lI_add]; rfl]
    exact fits_175 (by omega)
  have dn : f_X11_fits_154 N (0 : Int32) (lI (Q : Int)) (iI (e + ((j + 1 : Nat) : Int))) = some (lI (nx Q), iI (nq Q (e + ((j + 1 : Nat) : Int)))) := by
    unfold f_X11_fits_154
    rw [if_pos rfl]
    exact fits_175 (by omega)
  have ltI : (lI (H : Int) < lI (M : Int)) ↔ H < M := by
    rw [lI_lt ⟨by omega, by omega⟩ ⟨by omega, by omega⟩]; omega
  have eqI : (lI (M : Int) = lI (H : Int)) ↔ M = H := by
    rw [lI_eq ⟨by omega, by omega⟩ ⟨by omega, by omega⟩]; omega
  have odI : (lI ((Q % 2 : Nat) : Int) = (1 : Int64)) ↔ Q % 2 = 1 := by
    have := lI_eq (a := ((Q % 2 : Nat) : Int)) (b := 1) ⟨by omega, by omega⟩ ⟨by decide, by decide⟩
    constructor
    · intro z; have := this.mp z; omega
    · intro z; exact this.mpr (by omega)
  rw [f_X11_fits_3, sr, if_pos c0, if_neg (nI_ne0 (by omega) (by omega)), nI_pred, s1, mk, an, ad, md]
  unfold fres fup
  rw [show j + 1 - 1 = j by omega, ← hQ, ← hM, ← hH]
  by_cases c1 : H < M
  · rw [if_pos (ltI.mpr c1), decide_eq_true c1, Bool.true_or, if_pos rfl, up]
  · rw [if_neg (fun z => c1 (ltI.mp z)), decide_eq_false c1, Bool.false_or]
    by_cases c2 : M = H
    · rw [if_pos (eqI.mpr c2), decide_eq_true c2, Bool.true_and]
      cases st
      · rw [if_pos (show bI false = 0 by decide), Bool.false_or]
        by_cases c3 : Q % 2 = 1
        · rw [if_pos (odI.mpr c3), decide_eq_true c3, if_pos rfl, up]
        · rw [if_neg (fun z => c3 (odI.mp z)), decide_eq_false c3, if_neg (by decide), dn]; rfl
      · rw [if_neg (show ¬ bI true = 0 by decide), Bool.true_or, if_pos rfl, up]
    · rw [if_neg (fun z => c2 (eqI.mp z)), decide_eq_false c2, Bool.false_and, if_neg (by decide), dn]; rfl
theorem fits_go {n k : Nat} {e : Int} {st : Bool} (hk : 1 ≤ k) (hk' : k ≤ 38) (h1 : 8388608 * 2 ^ k ≤ n) (h2 : n < 16777216 * 2 ^ k) : ∀ (m v : Nat), v + m = k → ∀ f : Nat, m < f → f_X11_fits_3 N f (lI n) (iI e) (bI st) (nI v) = some (lI (nx (fres n k st)), iI (nq (fres n k st) (e + k))) := by
  have p38 : 2 ^ k ≤ 2 ^ 38 := Nat.pow_le_pow_right (by decide) hk'
  intro m
  induction m with
  | zero =>
    intro v hv f hf
    obtain ⟨f, rfl⟩ : ∃ f', f = f' + 1 := ⟨f - 1, by omega⟩
    obtain rfl : v = k := by omega
    exact fits_end hk hk' h2 f
  | succ m ih =>
    intro v hv f hf
    obtain ⟨f, rfl⟩ : ∃ f', f = f' + 1 := ⟨f - 1, by omega⟩
    have sr : lI (n : Int) >>> ((nI v).toInt64 &&& 63) = lI ((n / 2 ^ v : Nat) : Int) := l_shr (by omega) (by omega)
    have ge : 16777216 ≤ n / 2 ^ v := by
      rw [Nat.le_div_iff_mul_le (Nat.two_pow_pos _)]
      have e1 : 2 ^ k = 2 ^ v * 2 ^ (m + 1) := by rw [← Nat.pow_add, hv]
      have e2 : 2 ^ (m + 1) = 2 * 2 ^ m := by rw [Nat.pow_succ]; omega
      have e3 : 2 ^ v * 1 ≤ 2 ^ v * 2 ^ m := Nat.mul_le_mul_left _ (Nat.two_pow_pos m)
      have e4 : 2 ^ k = 2 * (2 ^ v * 2 ^ m) := by rw [e1, e2]; grind
      omega
    have dl := Nat.div_le_self n (2 ^ v)
    have c0 : ¬ lI ((n / 2 ^ v : Nat) : Int) < (16777216 : Int64) := fun z => by
      have := (lI_lt (b := 16777216) ⟨by omega, by omega⟩ ⟨by decide, by decide⟩).mp z
      omega
    rw [f_X11_fits_3, sr, if_neg c0, nI_1]
    exact ih (v + 1) (by omega) f (by omega)
theorem fres_le {n k : Nat} {st : Bool} (h2 : n < 16777216 * 2 ^ k) : fres n k st ≤ 16777216 := by
  have ql : n / 2 ^ k < 16777216 := (Nat.div_lt_iff_lt_mul (Nat.two_pow_pos _)).mpr h2
  unfold fres
  split <;> omega
theorem fres_ge {n k : Nat} {st : Bool} (h1 : 8388608 * 2 ^ k ≤ n) : 8388608 ≤ fres n k st := by
  have ql : 8388608 ≤ n / 2 ^ k := (Nat.le_div_iff_mul_le (Nat.two_pow_pos _)).mpr h1
  unfold fres
  omega
/-- a ratio of 24 binary digits and more: both sides round it alike -/
theorem fit_round (hN : 1048576 ≤ N) {A B k : Nat} {e : Int} (hB : 0 < B) (hk : 1 ≤ k) (hk' : k ≤ 38) (h1 : 8388608 * 2 ^ k ≤ A / B) (h2 : A / B < 16777216 * 2 ^ k) (he : -149 ≤ e + k ∧ e + k ≤ 100) : ∃ (c : Nat) (q : Int), f_X11_fits N (lI ((A / B : Nat) : Int)) (iI e) (bI (decide (A % B ≠ 0))) = some (lI c, iI q) ∧ (∀ s, FP.Core.roundRatio FP.Core.b32 s A B e = .fin s c q) ∧ 8388608 ≤ c ∧ c < 16777216 ∧ e + k ≤ q ∧ q ≤ e + k + 1 ∧ (A ≤ 16777215 * (B * 2 ^ k) → q = e + k) := by
  have l := fres_le (st := decide (A % B ≠ 0)) h2
  have g := fres_ge (st := decide (A % B ≠ 0)) h1
  have nr := near_fres (A := A) hB hk
  refine ⟨nx (fres (A / B) k (decide (A % B ≠ 0))), nq (fres (A / B) k (decide (A % B ≠ 0))) (e + k), ?_, fun s => ?_, ?_, ?_, ?_, ?_, fun hc => ?_⟩
  · unfold f_X11_fits
    exact fits_go hk hk' h1 h2 k 0 (by omega) N (by omega)
  · rw [rr_key s hB h1 h2 he.1, nr]
    exact settle_nx s l (by omega)
  · unfold nx; split <;> omega
  · unfold nx; split <;> omega
  · unfold nq; split <;> omega
  · unfold nq; split <;> omega
  · have := FP.Core.nearest_le (Nat.mul_pos hB (Nat.two_pow_pos k)) hc
    rw [nr] at this
    unfold nq
    rw [if_neg (by omega)]
theorem fits_38 : ∀ (j n : Nat) (e : Int), 8388608 ≤ n * 2 ^ j → n * 2 ^ j < 16777216 → ∀ f : Nat, j < f → f_X11_fits_38 N f (lI n) (iI e) = some (lI ((n * 2 ^ j : Nat) : Int), iI (e - j)) := by
  intro j
  induction j with
  | zero =>
    intro n e h1 h2 f hf
    obtain ⟨f, rfl⟩ : ∃ f', f = f' + 1 := ⟨f - 1, by omega⟩
    rw [Nat.pow_zero, Nat.mul_one] at h1 h2
    have m2 : (2 : Int64) * lI (n : Int) = lI (2 * (n : Int)) := by rw [show (2 : Int64) = lI 2 from rfl, lI_mul]
    have c : (16777216 : Int64) ≤ lI (2 * (n : Int)) := (lI_le (a := 16777216) ⟨by decide, by decide⟩ ⟨by omega, by omega⟩).mpr (by omega)
    rw [f_X11_fits_38, m2, if_pos c, Nat.pow_zero, Nat.mul_one, show e - ((0 : Nat) : Int) = e by omega]
  | succ j ih =>
    intro n e h1 h2 f hf
    obtain ⟨f, rfl⟩ : ∃ f', f = f' + 1 := ⟨f - 1, by omega⟩
    have e2 : n * 2 ^ (j + 1) = 2 * n * 2 ^ j := by rw [Nat.pow_succ]; grind
    have p1 : 2 * n * 1 ≤ 2 * n * 2 ^ j := Nat.mul_le_mul_left _ (Nat.two_pow_pos j)
    have m2 : (2 : Int64) * lI (n : Int) = lI ((2 * n : Nat) : Int) := by rw [show (2 : Int64) = lI 2 from rfl, lI_mul]; rfl
    have c : ¬ (16777216 : Int64) ≤ lI ((2 * n : Nat) : Int) := fun z => by
      have := (lI_le (a := 16777216) ⟨by decide, by decide⟩ ⟨by omega, by omega⟩).mp z
      omega
    have m1 : iI e - (1 : Int32) = iI (e - 1) := by rw [show (1 : Int32) = iI 1 from rfl, iI_sub]
    rw [f_X11_fits_38, m2, if_neg c, m1, ih (2 * n) (e - 1) (by omega) (by omega) f (by omega), e2, show e - 1 - (j : Int) = e - ((j + 1 : Nat) : Int) by omega]
theorem log_ex {n : Nat} (h0 : 0 < n) (hn : n < 16777216) : ∃ j, j ≤ 23 ∧ 8388608 ≤ n * 2 ^ j ∧ n * 2 ^ j < 16777216 := by
  have l1 : 2 ^ n.log2 ≤ n := Nat.log2_self_le (by omega)
  have l2 : n < 2 ^ (n.log2 + 1) := Nat.lt_log2_self
  have l3 : n.log2 < 24 := (Nat.pow_lt_pow_iff_right (a := 2) (by decide)).mp (Nat.lt_of_le_of_lt l1 hn)
  refine ⟨23 - n.log2, by omega, ?_, ?_⟩
  · have := Nat.mul_le_mul_right (2 ^ (23 - n.log2)) l1
    rw [← Nat.pow_add, show n.log2 + (23 - n.log2) = 23 by omega] at this
    exact this
  · have := Nat.mul_lt_mul_of_pos_right l2 (Nat.two_pow_pos (23 - n.log2))
    rw [← Nat.pow_add, show n.log2 + 1 + (23 - n.log2) = 24 by omega] at this
    exact this
theorem log_ex2 {n : Nat} (h0 : 16777216 ≤ n) (hn : n < 16777216 * 2 ^ 38) : ∃ k, 1 ≤ k ∧ k ≤ 38 ∧ 8388608 * 2 ^ k ≤ n ∧ n < 16777216 * 2 ^ k := by
  have l1 : 2 ^ n.log2 ≤ n := Nat.log2_self_le (by omega)
  have l2 : n < 2 ^ (n.log2 + 1) := Nat.lt_log2_self
  have l3 : n.log2 < 62 := (Nat.pow_lt_pow_iff_right (a := 2) (by decide)).mp (Nat.lt_of_le_of_lt l1 hn)
  have l4 : 24 < n.log2 + 1 := (Nat.pow_lt_pow_iff_right (a := 2) (by decide)).mp (Nat.lt_of_le_of_lt h0 l2)
  refine ⟨n.log2 - 23, by omega, by omega, ?_, ?_⟩
  · have : 2 ^ 23 * 2 ^ (n.log2 - 23) = 2 ^ n.log2 := by rw [← Nat.pow_add, show 23 + (n.log2 - 23) = n.log2 by omega]
    omega
  · have : 2 ^ 24 * 2 ^ (n.log2 - 23) = 2 ^ (n.log2 + 1) := by rw [← Nat.pow_add, show 24 + (n.log2 - 23) = n.log2 + 1 by omega]
    omega
theorem pw_le {a b K k : Nat} (h : a * 2 ^ K < b * 2 ^ k) (hab : b ≤ 2 * a) : K ≤ k := by
  refine Classical.byContradiction fun z => ?_
  have : 2 ^ (k + 1) ≤ 2 ^ K := Nat.pow_le_pow_right (by decide) (by omega)
  have h3 := Nat.mul_le_mul_left a this
  have h4 := Nat.mul_le_mul_right (2 ^ k) hab
  have e : a * 2 ^ (k + 1) = 2 * a * 2 ^ k := by rw [Nat.pow_succ]; grind
  omega
/-- a whole number of at most 24 digits, at e -/
theorem fit_small (hN : 1048576 ≤ N) {n : Nat} {e : Int} (h0 : 0 < n) (hn : n < 16777216) (he : -100 ≤ e ∧ e ≤ 100) : ∃ (c : Nat) (q : Int), f_X11_fits N (lI (n : Int)) (iI e) (0 : Int32) = some (lI c, iI q) ∧ (∀ s, FP.Core.roundRatio FP.Core.b32 s n 1 e = .fin s c q) ∧ 8388608 ≤ c ∧ c < 16777216 ∧ e - 23 ≤ q ∧ q ≤ e := by
  obtain ⟨j, j1', j2, j3⟩ := log_ex h0 hn
  refine ⟨n * 2 ^ j, e - j, ?_, fun s => ?_, j2, j3, by omega, by omega⟩
  · obtain ⟨N', rfl⟩ : ∃ N', N = N' + 1 := ⟨N - 1, by omega⟩
    have sr : lI (n : Int) >>> (((0 : Int32)).toInt64 &&& 63) = lI ((n / 2 ^ 0 : Nat) : Int) := l_shr (k := 0) (by omega) (by omega)
    rw [Nat.pow_zero, Nat.div_one] at sr
    have c0 : lI (n : Int) < (16777216 : Int64) := (lI_lt (b := 16777216) ⟨by omega, by omega⟩ ⟨by decide, by decide⟩).mpr (by omega)
    unfold f_X11_fits
    rw [f_X11_fits_3, sr, if_pos c0, if_pos rfl]
    exact fits_38 j n e j2 j3 _ (by omega)
  · refine FP.Core.roundRatio_exact FP.Core.good_b32 (by decide) ⟨?_, ?_, ?_, Or.inr ?_⟩ ?_
    · exact j3
    · show (-149 : Int) ≤ e - j
      omega
    · show e - j ≤ (104 : Int)
      omega
    · exact j2
    · rw [show (e - (e - (j : Int))).toNat = j by omega, show (e - (j : Int) - e).toNat = 0 by omega, Nat.pow_zero, Nat.mul_one, Nat.mul_one]
end FIT
