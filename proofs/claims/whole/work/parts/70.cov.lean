/-! ===== every sign is told ===== -/
theorem canc {p i u : Nat} (h : i * u % p = 1) (x : Nat) : (x * i % p) * u % p = x % p := by
  rw [Nat.mul_mod, Nat.mod_mod, ← Nat.mul_mod, Nat.mul_assoc, Nat.mul_mod, h, Nat.mul_one, Nat.mod_mod]
theorem epw_n (n : Nat) : ∀ k : Nat, epw ((n : Int), 0) k = (((n ^ k : Nat) : Int), 0) := by
  intro k
  induction k with
  | zero => rfl
  | succ k ih =>
    show em (epw ((n : Int), 0) k) ((n : Int), 0) = _
    rw [ih, Nat.pow_succ, Int.natCast_mul]
    refine e_ext ?_ ?_
    · show ((n ^ k : Nat) : Int) * n - 0 * 0 = _
      omega
    · show ((n ^ k : Nat) : Int) * 0 + 0 * (n : Int) - 0 * 0 = 0
      omega
section COV
variable {p w u v : Nat} {a b : Int}
theorem sgv_1 {t : Nat} (h : t ^ ((p - 1) / 3) % p = 1) : sgv p w t = 0 := by unfold sgv; rw [if_pos h]
theorem cover (h7 : 7 ≤ p) (hp : p ≤ 997) (h3 : p % 3 = 1) (hr : rp p) (h : wOf p a b w) (hv : v = 1 ∨ v = 2) (hu1 : 1 ≤ u) (hu' : u < p) (hu : u ^ ((p - 1) / 3) % p = if v = 1 then w else w * w % p) {t : Nat} (ht : 1 ≤ t) (ht' : t < p) (hs : sgv p w t ≠ 0) : ∃ c, 1 ≤ c ∧ c < p ∧ sgv p w c = 0 ∧ (c * u % p = t ∨ c * u * u % p = t) := by
  obtain ⟨i, hi⟩ : ∃ i, i = u ^ (p - 2) % p := ⟨_, rfl⟩
  have iu : i * u % p = 1 := by
    have := fer_nat h7 hp h3 hr hu1 hu'
    rw [hi, Nat.mul_mod, Nat.mod_mod, ← Nat.mul_mod, ← Nat.pow_succ, show (p - 2).succ = p - 1 by omega]
    exact this
  obtain ⟨k, hk⟩ : ∃ k, k = (p - 1) / 3 := ⟨_, rfl⟩
  have one : (u ^ k % p) * (i ^ k % p) % p = 1 := by
    have q := chi_mul k i u p
    rw [iu, Nat.one_pow, Nat.mod_eq_of_lt (show 1 < p by omega)] at q
    rw [Nat.mul_comm]
    exact q.symm
  have tl : t % p = t := Nat.mod_eq_of_lt ht'
  have w0 := h.1
  have X := chi3 h7 hp h3 hr h ht ht'
  have n1 : t ^ ((p - 1) / 3) % p ≠ 1 := fun z => hs (sgv_1 z)
  rw [← hk] at X n1 hu
  by_cases c : t ^ k % p = u ^ k % p
  · have e1 := canc iu t
    rw [tl] at e1
    refine ⟨t * i % p, ?_, Nat.mod_lt _ (by omega), sgv_1 ?_, Or.inl e1⟩
    · rcases Nat.eq_zero_or_pos (t * i % p) with z | z
      · rw [z, Nat.zero_mul, Nat.zero_mod] at e1; omega
      · exact z
    · rw [← hk, chi_mul, c]; exact one
  · have sq : t ^ k % p = (u ^ k % p) * (u ^ k % p) % p := by
      rcases hv with rfl | rfl
      · rw [if_pos rfl] at hu
        rcases X with z | z | z
        · exact absurd z n1
        · rw [hu] at c; exact absurd z c
        · rw [hu]; exact z
      · rw [if_neg (by decide)] at hu
        rcases X with z | z | z
        · exact absurd z n1
        · rw [hu, w4 h7 h]; exact z
        · rw [hu] at c; exact absurd z c
    have e1 := canc iu t
    rw [tl] at e1
    have e2 := canc iu (t * i % p)
    rw [Nat.mod_mod] at e2
    have e3 : (t * i % p * i % p) * u * u % p = t := by
      rw [Nat.mul_mod _ u, e2, Nat.mod_eq_of_lt hu']
      exact e1
    refine ⟨t * i % p * i % p, ?_, Nat.mod_lt _ (by omega), sgv_1 ?_, Or.inr e3⟩
    · rcases Nat.eq_zero_or_pos (t * i % p * i % p) with z | z
      · rw [z, Nat.zero_mul, Nat.zero_mul, Nat.zero_mod] at e3; omega
      · exact z
    · have q1 : (t * i % p) ^ k % p = u ^ k % p := by
        rw [chi_mul, sq, Nat.mul_mod, Nat.mod_mod, ← Nat.mul_mod, Nat.mul_assoc, Nat.mul_mod, one, Nat.mul_one, Nat.mod_mod, Nat.mod_mod]
      rw [← hk, chi_mul, q1]
      exact one
/-- what the sign of u says -/
theorem sgn_u (h7 : 7 ≤ p) (h : wOf p a b w) (hc : cg (a, b) (epw ((u : Int), 0) ((p - 1) / 3)) (w3 v)) (hv : v ≤ 2) : (v = 0 → u ^ ((p - 1) / 3) % p = 1) ∧ (1 ≤ v → u ^ ((p - 1) / 3) % p = if v = 1 then w else w * w % p) := by
  obtain ⟨X, hX⟩ : ∃ X, X = u ^ ((p - 1) / 3) := ⟨_, rfl⟩
  rw [epw_n, ← hX] at hc
  rw [← hX]
  have w0 := h.1
  obtain ⟨k, hk⟩ := h.2.2
  have l2 := Nat.mod_lt (w * w) (show 0 < p by omega)
  have v3 : v = 0 ∨ v = 1 ∨ v = 2 := by omega
  rcases v3 with rfl | rfl | rfl
  · refine ⟨fun _ => ?_, fun z => by omega⟩
    have d := w_ed h (x := (X : Int) - 1) (y := (0 : Int) - 0) hc
    exact mod_dv (by have e : (X : Int) - 1 + (0 - 0) * w = (X : Int) - (1 : Nat) := by omega
                     rw [e] at d; exact d) (by omega)
  · refine ⟨fun z => by omega, fun _ => ?_⟩
    have d := w_ed h (x := (X : Int) - 0) (y := (0 : Int) - 1) hc
    rw [if_pos rfl]
    exact mod_dv (by have e : (X : Int) - 0 + (0 - 1) * w = (X : Int) - (w : Nat) := by omega
                     rw [e] at d; exact d) w0
  · refine ⟨fun z => by omega, fun _ => ?_⟩
    have d := w_ed h (x := (X : Int) - -1) (y := (0 : Int) - -1) hc
    rw [if_neg (by decide)]
    obtain ⟨j, hj⟩ := d
    obtain ⟨q, hq⟩ := dv_mod (w * w) p
    rw [Int.natCast_mul] at hq
    exact mod_dv ⟨j - k + q, by grind⟩ l2
end COV
