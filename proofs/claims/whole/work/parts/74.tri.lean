/-! ===== how many third roots ===== -/
theorem mod_iff {n m p : Nat} (hp : 0 < p) : n % p = m % p ↔ (p : Int) ∣ (n : Int) - m := by
  have d := dv_mod m p
  have l := Nat.mod_lt m hp
  constructor
  · intro h
    have d1 := dv_mod n p
    rw [h] at d1
    have := Int.dvd_sub d1 d
    rw [show (n : Int) - (m % p : Nat) - ((m : Int) - (m % p : Nat)) = (n : Int) - m by omega] at this
    exact this
  · intro h
    have := Int.dvd_add h d
    rw [show (n : Int) - m + ((m : Int) - (m % p : Nat)) = (n : Int) - (m % p : Nat) by omega] at this
    exact mod_dv this l
theorem p3 (n : Nat) : ((n ^ 3 : Nat) : Int) = (n : Int) * n * n := by
  rw [show n ^ 3 = n * n * n by grind, Int.natCast_mul, Int.natCast_mul]
section TRI
variable {p w : Nat} {a b : Int}
theorem tri_iff (h7 : 7 ≤ p) (hr : rp p) (h : wOf p a b w) {t j : Nat} (ht : t < p) (hj : j < p) : j ^ 3 % p = t ^ 3 % p ↔ j = t ∨ j = t * w % p ∨ j = t * (w * w) % p := by
  obtain ⟨w0, -, ⟨k, hk⟩⟩ := h
  rw [mod_iff (by omega), p3, p3]
  have e : (j : Int) * j * j - t * t * t = (j - t) * ((j - t * w) * (j + t + t * w)) + (j - t) * t * t * ((w : Int) * w + w + 1) := by grind
  constructor
  · intro d
    have d2 : (p : Int) ∣ ((j : Int) - t) * ((j - t * w) * (j + t + t * w)) := by
      have d3 : (p : Int) ∣ (j - t) * t * t * ((w : Int) * w + w + 1) := by rw [hk]; exact ⟨(j - t) * t * t * k, by grind⟩
      have := Int.dvd_sub d d3
      rw [e, Int.add_sub_cancel] at this
      exact this
    rcases rp_mulI hr d2 with z | z
    · left
      have := dv_small z (by omega) (by omega)
      omega
    · rcases rp_mulI hr z with z | z
      · right; left
        have : (p : Int) ∣ ((t * w : Nat) : Int) - (j : Nat) := by
          obtain ⟨q, hq⟩ := z
          exact ⟨-q, by rw [Int.natCast_mul]; grind⟩
        exact (mod_dv this hj).symm
      · right; right
        have : (p : Int) ∣ ((t * (w * w) : Nat) : Int) - (j : Nat) := by
          obtain ⟨q, hq⟩ := z
          exact ⟨t * k - q, by rw [Int.natCast_mul, Int.natCast_mul]; grind⟩
        exact (mod_dv this hj).symm
  · have fin : (p : Int) ∣ ((j : Int) - t) * ((j - t * w) * (j + t + t * w)) → (p : Int) ∣ (j : Int) * j * j - t * t * t := by
      rintro ⟨q, hq⟩
      rw [e, hq, hk]
      exact ⟨q + (j - t) * t * t * k, by grind⟩
    rintro (rfl | z | z)
    · rw [Int.sub_self]; exact Int.dvd_zero _
    · obtain ⟨q, hq⟩ := dv_mod (t * w) p
      rw [← z, Int.natCast_mul] at hq
      exact fin ⟨-(j - t) * q * (j + t + t * w), by grind⟩
    · obtain ⟨q, hq⟩ := dv_mod (t * (w * w)) p
      rw [← z, Int.natCast_mul, Int.natCast_mul] at hq
      exact fin ⟨(j - t) * (j - t * w) * (t * k - q), by grind⟩
end TRI
