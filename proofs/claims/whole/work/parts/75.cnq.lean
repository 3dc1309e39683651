/-! ===== how often a class is a third power ===== -/
section CNQ
variable {p w : Nat} {a b : Int}
theorem cn_cub (h7 : 7 ≤ p) (hr : rp p) (h : wOf p a b w) {i : Nat} (hi : isCub p i) : cn (fun t => t ^ 3 % p) p i = 3 := by
  obtain ⟨d1, d2, d3, d4, d5⟩ := w_dist h7 h
  have w0 := h.1
  obtain ⟨t, t1, t2, t3⟩ := hi
  have nt : ¬ (p : Int) ∣ (t : Int) := fun z => by have := dv_small z (by omega) (by omega); omega
  have nw : ¬ (p : Int) ∣ (w : Int) := fun z => by have := dv_small z (by omega) (by omega); omega
  have nw1 : ¬ (p : Int) ∣ (w : Int) - 1 := fun z => by have := dv_small z (by omega) (by omega); omega
  have nw2 : ¬ (p : Int) ∣ (w : Int) * w - 1 := fun z => d2 (mod_dv (n := w * w) (m := 1) (by rw [Int.natCast_mul]; exact z) (by omega))
  rw [cn_cb]
  refine cb_three (a := t) (b := t * w % p) (c := t * (w * w) % p) t2 (Nat.mod_lt _ (by omega)) (Nat.mod_lt _ (by omega)) ?_ ?_ ?_ (fun j hj => ?_)
  · intro z
    have d := dv_mod (t * w) p
    rw [← z, Int.natCast_mul, show (t : Int) * w - t = t * (w - 1) by grind] at d
    rcases rp_mulI hr d with q | q
    · exact nt q
    · exact nw1 q
  · intro z
    have d := dv_mod (t * (w * w)) p
    rw [← z, Int.natCast_mul, Int.natCast_mul, show (t : Int) * (w * w) - t = t * (w * w - 1) by grind] at d
    rcases rp_mulI hr d with q | q
    · exact nt q
    · exact nw2 q
  · intro z
    have d := (mod_iff (by omega)).mp z.symm
    rw [Int.natCast_mul, Int.natCast_mul, Int.natCast_mul, show (t : Int) * (w * w) - t * w = t * (w * (w - 1)) by grind] at d
    rcases rp_mulI hr d with q | q
    · exact nt q
    · rcases rp_mulI hr q with q | q
      · exact nw q
      · exact nw1 q
  · rw [decide_eq_true_iff, ← t3]
    exact tri_iff h7 hr h t2 hj
theorem cn_not {i : Nat} (hp : 1 ≤ p) (h1 : 1 ≤ i) (hi : ¬ isCub p i) : cn (fun t => t ^ 3 % p) p i = 0 := by
  rcases Nat.eq_zero_or_pos (cn (fun t => t ^ 3 % p) p i) with z | z
  · exact z
  · exfalso
    obtain ⟨j, j1, j2⟩ := cn_ex _ _ _ z
    have j2' : j ^ 3 % p = i := j2
    refine hi ⟨j, ?_, j1, j2'⟩
    rcases Nat.eq_zero_or_pos j with q | q
    · rw [q, show (0 : Nat) ^ 3 = 0 from rfl, Nat.zero_mod] at j2'; omega
    · exact q
theorem cub0 (hr : rp p) {j : Nat} (hj : j < p) : decide (j ^ 3 % p = 0) = true ↔ decide (j = 0) = true := by
  rw [decide_eq_true_iff, decide_eq_true_iff]
  constructor
  · intro z
    have d : p ∣ j * j * j := by rw [show j * j * j = j ^ 3 by grind]; exact Nat.dvd_of_mod_eq_zero z
    have d' : p ∣ j := by
      rcases rp_mul hr d with q | q
      · rcases rp_mul hr q with q | q <;> exact q
      · exact q
    rcases Nat.eq_zero_or_pos j with q | q
    · exact q
    · exact absurd (Nat.le_of_dvd q d') (by omega)
  · intro z
    rw [z]
    exact Nat.zero_mod _
theorem cn_zero (hr : rp p) : cn (fun t => t ^ 3 % p) p 0 = 1 := by
  have p2 := hr.1
  have key : cb (fun j => decide (j ^ 3 % p = 0)) p = cb (fun j => decide (j = 0)) p := cb_congr p (fun j hj => bool_ext (cub0 hr hj))
  have e := cn_cb (fun t => t ^ 3 % p) 0 p
  rw [e, key, cb_one, if_pos (by omega)]
end CNQ
