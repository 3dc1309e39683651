/-! ===== signs by a whole prime ===== -/
theorem rp_mulI {p : Nat} (h : rp p) {x y : Int} (hd : (p : Int) ∣ x * y) : (p : Int) ∣ x ∨ (p : Int) ∣ y := by
  rw [Int.ofNat_dvd_left, Int.natAbs_mul] at hd
  rcases rp_mul h hd with z | z
  · exact Or.inl (Int.ofNat_dvd_left.mpr z)
  · exact Or.inr (Int.ofNat_dvd_left.mpr z)
theorem dv_small {p : Nat} {x : Int} (hd : (p : Int) ∣ x) (h1 : -(p : Int) < x) (h2 : x < p) : x = 0 := by
  obtain ⟨k, rfl⟩ := hd
  have p0 : (0 : Int) < p := by omega
  rcases Int.lt_trichotomy k 0 with z | z | z
  · have : (p : Int) * k ≤ p * (-1) := Int.mul_le_mul_of_nonneg_left (by omega) (by omega)
    omega
  · rw [z, Int.mul_zero]
  · have : (p : Int) * 1 ≤ p * k := Int.mul_le_mul_of_nonneg_left (by omega) (by omega)
    omega
theorem dv_mod (n p : Nat) : (p : Int) ∣ (n : Int) - (n % p : Nat) := by
  refine ⟨((n / p : Nat) : Int), ?_⟩
  have e : ((p * (n / p) + n % p : Nat) : Int) = (n : Int) := congrArg _ (Nat.div_add_mod n p)
  simp only [Int.natCast_add, Int.natCast_mul] at e
  omega
theorem mod_dv {n m p : Nat} (h : (p : Int) ∣ (n : Int) - m) (hm : m < p) : n % p = m := by
  have d := dv_mod n p
  have l := Nat.mod_lt n (show 0 < p by omega)
  have d2 : (p : Int) ∣ ((n % p : Nat) : Int) - m := by
    have := Int.dvd_sub h d
    have e : (n : Int) - m - ((n : Int) - (n % p : Nat)) = ((n % p : Nat) : Int) - m := by omega
    rw [e] at this
    exact this
  have := dv_small d2 (by omega) (by omega)
  omega
section SGS
variable {p w : Nat} {a b : Int}
theorem w_dist (h7 : 7 ≤ p) (h : wOf p a b w) : w ≠ 1 ∧ w * w % p ≠ 1 ∧ w * w % p ≠ w ∧ 1 ≤ w ∧ 1 ≤ w * w % p := by
  obtain ⟨w0, -, ⟨k, hk⟩⟩ := h
  have no3 : ¬ (p : Int) ∣ 3 := fun z => by have := dv_small z (by omega) (by omega); omega
  have d := dv_mod (w * w) p
  obtain ⟨q, hq⟩ := d
  rw [Int.natCast_mul] at hq
  have e0 : w ≠ 0 := fun z => by
    rw [z] at hk
    have : (p : Int) ∣ 1 := ⟨k, by rw [← hk]; rfl⟩
    have := dv_small this (by omega) (by omega)
    omega
  refine ⟨fun z => no3 ⟨k, ?_⟩, fun z => no3 ?_, fun z => no3 ?_, by omega, ?_⟩
  · rw [z] at hk; rw [← hk]; rfl
  · rw [z] at hq
    exact ⟨k - (w - 1) * (k - q), by grind⟩
  · rw [z] at hq
    exact ⟨4 * k - (2 * w + 1) * (k - q), by grind⟩
  · rcases Nat.eq_zero_or_pos (w * w % p) with z | z
    · exfalso
      rw [z] at hq
      have d1 : (p : Int) ∣ 1 := ⟨(k - q) * (1 - w) + q, by grind⟩
      have := dv_small d1 (by omega) (by omega)
      omega
    · exact z
theorem chi3 (h7 : 7 ≤ p) (hp : p ≤ 997) (h3 : p % 3 = 1) (hr : rp p) (h : wOf p a b w) {t : Nat} (ht : 1 ≤ t) (ht' : t < p) : t ^ ((p - 1) / 3) % p = 1 ∨ t ^ ((p - 1) / 3) % p = w ∨ t ^ ((p - 1) / 3) % p = w * w % p := by
  obtain ⟨w0, -, ⟨k, hk⟩⟩ := h
  have f := fer_nat h7 hp h3 hr ht ht'
  obtain ⟨X, hX⟩ : ∃ X, X = t ^ ((p - 1) / 3) % p := ⟨_, rfl⟩
  have Xl : X < p := by rw [hX]; exact Nat.mod_lt _ (by omega)
  have f3 : X ^ 3 % p = 1 := by
    rw [hX, ← Nat.pow_mod, ← Nat.pow_mul, show (p - 1) / 3 * 3 = p - 1 by omega]
    exact f
  rw [← hX]
  obtain ⟨c, hc⟩ := dv_mod (X ^ 3) p
  rw [f3] at hc
  have e3 : ((X ^ 3 : Nat) : Int) = (X : Int) * X * X := by
    rw [show X ^ 3 = X * X * X by grind, Int.natCast_mul, Int.natCast_mul]
  rw [e3] at hc
  have d : (p : Int) ∣ ((X : Int) - 1) * (((X : Int) - w) * (X + 1 + w)) := by
    refine ⟨c - (X - 1) * k, ?_⟩
    have e : ((X : Int) - 1) * (((X : Int) - w) * (X + 1 + w)) = ((X : Int) * X * X - (1 : Nat)) - (X - 1) * ((w : Int) * w + w + 1) := by grind
    rw [e, hc, hk]
    grind
  obtain ⟨q, hq⟩ := dv_mod (w * w) p
  rw [Int.natCast_mul] at hq
  have w2l := Nat.mod_lt (w * w) (show 0 < p by omega)
  rcases rp_mulI hr d with z | z
  · left
    have := dv_small z (by omega) (by omega)
    omega
  · rcases rp_mulI hr z with z | z
    · right; left
      have := dv_small z (by omega) (by omega)
      omega
    · right; right
      obtain ⟨j, hj⟩ := z
      have d2 : (p : Int) ∣ (X : Int) - (w * w % p : Nat) := ⟨j - k + q, by grind⟩
      have := dv_small d2 (by omega) (by omega)
      omega
/-- the sign of t -/
def sgv (p w t : Nat) : Nat := if t ^ ((p - 1) / 3) % p = 1 then 0 else if t ^ ((p - 1) / 3) % p = w then 1 else 2
theorem chi_mul (k c u : Nat) (p : Nat) : (c * u % p) ^ k % p = (c ^ k % p) * (u ^ k % p) % p := by
  rw [← Nat.pow_mod, Nat.mul_pow, Nat.mul_mod]
theorem sgv_of (h7 : 7 ≤ p) (h : wOf p a b w) {t v : Nat} (hv : v = 1 ∨ v = 2) (e : t ^ ((p - 1) / 3) % p = if v = 1 then w else w * w % p) : sgv p w t = v := by
  obtain ⟨d1, d2, d3, -, -⟩ := w_dist h7 h
  unfold sgv
  rw [e]
  rcases hv with rfl | rfl
  · rw [if_pos rfl, if_neg d1, if_pos rfl]
  · rw [if_neg (show ¬ 2 = 1 by decide), if_neg d2, if_neg d3]
theorem w4 (h7 : 7 ≤ p) (h : wOf p a b w) : (w * w % p) * (w * w % p) % p = w := by
  obtain ⟨w0, -, ⟨k, hk⟩⟩ := h
  rw [← Nat.mul_mod]
  refine mod_dv ?_ w0
  refine ⟨k * (w * w - w), ?_⟩
  simp only [Int.natCast_mul]
  have e : (w : Int) * w * (w * w) - w = ((w : Int) * w + w + 1) * (w * w - w) := by grind
  rw [e, hk]
  grind
/-- the sign of the class of c u and of c u u, c a third power -/
theorem sgv_mul (h7 : 7 ≤ p) (h : wOf p a b w) {u v c : Nat} (hv : v = 1 ∨ v = 2) (hu : u ^ ((p - 1) / 3) % p = if v = 1 then w else w * w % p) (hc : c ^ ((p - 1) / 3) % p = 1) : sgv p w (c * u % p) = v ∧ sgv p w (c * u * u % p) = 3 - v := by
  have w0 := h.1
  have e1 : (c * u % p) ^ ((p - 1) / 3) % p = u ^ ((p - 1) / 3) % p := by rw [chi_mul, hc, Nat.one_mul, Nat.mod_mod]
  have e2 : (c * u * u % p) ^ ((p - 1) / 3) % p = (u ^ ((p - 1) / 3) % p) * (u ^ ((p - 1) / 3) % p) % p := by
    rw [chi_mul, Nat.mul_pow, Nat.mul_mod (c ^ _), hc, Nat.one_mul, Nat.mod_mod]
  refine ⟨sgv_of h7 h hv (by rw [e1, hu]), sgv_of h7 h (by omega) ?_⟩
  rw [e2, hu]
  rcases hv with rfl | rfl
  · rw [if_pos rfl, if_neg (by decide)]
  · rw [if_neg (by decide), if_pos (by decide), w4 h7 h]
end SGS
