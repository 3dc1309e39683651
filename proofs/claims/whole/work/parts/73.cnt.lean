/-! ===== counting three ===== -/
theorem cb_one (a : Nat) : ∀ n : Nat, cb (fun i => decide (i = a)) n = if a < n then 1 else 0 := by
  intro n
  induction n with
  | zero => rfl
  | succ n ih =>
    show cb (fun i => decide (i = a)) n + (if decide (n = a) = true then 1 else 0) = _
    rw [ih]
    by_cases c : n = a
    · rw [if_pos (decide_eq_true c), if_neg (show ¬ a < n by omega), if_pos (show a < n + 1 by omega)]
    · have nd : ¬ decide (n = a) = true := by simp only [decide_eq_true_eq]; exact c
      rw [if_neg nd]
      by_cases c2 : a < n
      · rw [if_pos c2, if_pos (show a < n + 1 by omega)]
      · rw [if_neg c2, if_neg (show ¬ a < n + 1 by omega)]
theorem cb_dis {P Q : Nat → Bool} : ∀ n : Nat, (∀ i, i < n → ¬ (P i = true ∧ Q i = true)) → cb (fun i => P i || Q i) n = cb P n + cb Q n := by
  intro n
  induction n with
  | zero => intro _; rfl
  | succ n ih =>
    intro h
    show cb (fun i => P i || Q i) n + (if (P n || Q n) = true then 1 else 0) = cb P n + (if P n = true then 1 else 0) + (cb Q n + (if Q n = true then 1 else 0))
    rw [ih (fun i hi => h i (by omega))]
    have hn := h n (by omega)
    cases e1 : P n <;> cases e2 : Q n
    · simp
    · simp; omega
    · simp; omega
    · exact absurd ⟨e1, e2⟩ hn
theorem cb_three {P : Nat → Bool} {n a b c : Nat} (ha : a < n) (hb : b < n) (hc : c < n) (h1 : a ≠ b) (h2 : a ≠ c) (h3 : b ≠ c) (hP : ∀ i, i < n → (P i = true ↔ i = a ∨ i = b ∨ i = c)) : cb P n = 3 := by
  have e : cb P n = cb (fun i => decide (i = a) || (decide (i = b) || decide (i = c))) n := cb_congr n (fun i hi => bool_ext (by
    rw [hP i hi, Bool.or_eq_true, Bool.or_eq_true, decide_eq_true_iff, decide_eq_true_iff, decide_eq_true_iff]))
  rw [e, cb_dis n (fun i _ => by simp only [Bool.or_eq_true, decide_eq_true_eq]; omega), cb_dis n (fun i _ => by simp only [decide_eq_true_eq]; omega), cb_one, cb_one, cb_one, if_pos ha, if_pos hb, if_pos hc]
