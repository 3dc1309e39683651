/-! ===== drawers: the class's bits, the reference's rows ===== -/
theorem dr_shl : ∀ j, j < 8 → (1 : Int32) <<< (nI j &&& 31) = nI (2 ^ j) := by decide +kernel
theorem dr_hasB : ∀ F, F < 256 → ∀ j, j < 8 → (((nI F >>> (nI j &&& 31)) &&& 1) = 1 ↔ F.testBit j = true) := by decide +kernel
theorem dr_clrB : ∀ F, F < 256 → ∀ j, j < 8 → nI F &&& (((1 : Int32) <<< (nI j &&& 31)) ^^^ (-1)) = nI (F &&& (255 ^^^ 2 ^ j)) := by decide +kernel
theorem dr_orB : ∀ F, F < 256 → ∀ j, j < 8 → nI F ||| nI (2 ^ j) = nI (F ||| 2 ^ j) := by decide +kernel
/-- a drawer's number, or not -/
theorem dr_out {v : Int32} (h : v < 0 ∨ (8 : Int32) ≤ v) : f_X0_isOne v = some 0 ∧ f_X11_isDrawer v = some 0 := by
  have e0 : (0 : Int64) = (0 : Int32).toInt64 := rfl
  have e7 : (7 : Int64) = (7 : Int32).toInt64 := rfl
  constructor
  · unfold f_X0_isOne
    rcases h with h | h
    · rw [if_pos h]
    · by_cases h0 : v < 0
      · rw [if_pos h0]
      · rw [if_neg h0, if_pos h]
  · have : f_X11_in v.toInt64 0 7 = some 0 := by
      unfold f_X11_in
      rcases h with h | h
      · rw [if_pos]; rw [Int64.lt_iff_toInt_lt, Int32.toInt_toInt64]; exact Int32.lt_iff_toInt_lt.mp h
      · by_cases h0 : v.toInt64 < 0
        · rw [if_pos h0]
        · rw [if_neg h0, if_pos]
          rw [Int64.lt_iff_toInt_lt, Int32.toInt_toInt64]
          have h2 := Int32.le_iff_toInt_le.mp h
          have e : (8 : Int32).toInt = 8 := rfl
          have e2 : (7 : Int64).toInt = 7 := rfl
          rw [e] at h2; rw [e2]; omega
    unfold f_X11_isDrawer
    rw [this]; rfl
theorem dr_in {j : Nat} (h : j < 8) : f_X0_isOne (nI j) = some 1 ∧ f_X11_isDrawer (nI j) = some 1 := by
  have : ∀ j, j < 8 → f_X0_isOne (nI j) = some 1 ∧ f_X11_isDrawer (nI j) = some 1 := by decide +kernel
  exact this j h
/-- every int is no drawer's number, or one of eight -/
theorem dr_cases (v : Int32) : (v < 0 ∨ (8 : Int32) ≤ v) ∨ ∃ j : Nat, j < 8 ∧ v = nI j := by
  rcases pk_ix v (n := 8) (by decide) with h | h | h
  · exact Or.inl (Or.inl h)
  · exact Or.inl (Or.inr h)
  · exact Or.inr h
theorem dr_ok {j : Nat} (h : j < 8) : ¬ (nI j < 0 ∨ 8 ≤ (nI j).toNatClampNeg) := nI_in h (by decide)
theorem dr_cl {j : Nat} (h : j < 8) : (nI j).toNatClampNeg = j := nI_clamp (by omega)
section DRW
variable {full : Int32} {pA pB has fst snd : Nat → Int32} {dr : Nat → Option (Int × Int)}
theorem kRow.has0 (hD : kRow full pA pB has fst snd 0 dr) {j : Nat} (hj : j < 8) : has j = (if (dr j).isSome then 1 else 0) := by
  obtain ⟨F, -, -, h⟩ := hD
  have := (h j hj).2.1
  rwa [Nat.zero_add] at this
theorem kRow.num (hD : kRow full pA pB has fst snd 0 dr) {j : Nat} (hj : j < 8) {a b : Int} (e : dr j = some (a, b)) : kNum a b ∧ pA j = iI a ∧ pB j = iI b ∧ fst j = iI a ∧ snd j = iI b := by
  obtain ⟨F, -, -, h⟩ := hD
  have := (h j hj).2.2 a b e
  rwa [Nat.zero_add] at this
theorem s_has (hD : kRow full pA pB has fst snd 0 dr) {j : Nat} (hj : j < 8) : f_X0_has (nI j) full = some (if (dr j).isSome then 1 else 0) := by
  obtain ⟨F, hF, rfl, h⟩ := hD
  unfold f_X0_has
  rw [(dr_in hj).1]
  have hb := dr_hasB F hF j hj
  rw [(h j hj).1] at hb
  rw [Option.bind_some]
  rw [if_neg (by decide)]
  by_cases hs : (dr j).isSome = true
  · rw [if_pos (hb.mpr hs), if_pos hs]
  · rw [if_neg (fun z => hs (hb.mp z)), if_neg hs]
theorem s_fill {j : Nat} (hj : j < 8) (x y : Int32) : f_X0_fill (nI j) x y full pA pB = some (full ||| ((1 : Int32) <<< (nI j &&& 31)), upd pA j x, upd pB j y) := by
  unfold f_X0_fill
  rw [(dr_in hj).1]
  rw [Option.bind_some]
  rw [if_neg (by decide), if_neg (dr_ok hj), if_neg (dr_ok hj), dr_cl hj]
theorem s_puts {j : Nat} (hj : j < 8) (x y : Int64) : f_X11_puts (nI j) x y has fst snd = some (upd has j 1, upd fst j x.toInt32, upd snd j y.toInt32) := by
  unfold f_X11_puts
  rw [if_neg (dr_ok hj), if_neg (dr_ok hj), if_neg (dr_ok hj), dr_cl hj]
  rfl
theorem kRow_fill (hD : kRow full pA pB has fst snd 0 dr) {j : Nat} (hj : j < 8) {a b : Int} (hn : kNum a b) : kRow (full ||| ((1 : Int32) <<< (nI j &&& 31))) (upd pA j (iI a)) (upd pB j (iI b)) (upd has j 1) (upd fst j (iI a)) (upd snd j (iI b)) 0 (fun d => if d = j then some (a, b) else dr d) := by
  obtain ⟨F, hF, rfl, h⟩ := hD
  refine ⟨F ||| 2 ^ j, ?_, ?_, ?_⟩
  · have h2 : 2 ^ j < 2 ^ 8 := Nat.pow_lt_pow_right (by decide) hj
    exact Nat.or_lt_two_pow (n := 8) hF h2
  · rw [dr_shl j hj, dr_orB F hF j hj]
  · intro d hd
    obtain ⟨h1, h2, h3⟩ := h d hd
    rw [Nat.zero_add] at h2 h3 ⊢
    by_cases e : d = j
    · subst e
      refine ⟨?_, ?_, ?_⟩
      · simp [Nat.testBit_or, Nat.testBit_two_pow_self]
      · simp [upd]
      · intro a' b' e'
        simp only [if_true, Option.some.injEq, Prod.mk.injEq] at e'
        obtain ⟨rfl, rfl⟩ := e'
        refine ⟨hn, ?_, ?_, ?_, ?_⟩ <;> simp [upd, iI]
    · refine ⟨?_, ?_, ?_⟩
      · simp [Nat.testBit_or, h1, e, Nat.testBit_two_pow, Ne.symm e]
      · simp [upd, e, h2]
      · intro a' b' e'
        simp only [if_neg e] at e'
        obtain ⟨q1, q2, q3, q4, q5⟩ := h3 a' b' e'
        refine ⟨q1, ?_, ?_, ?_, ?_⟩ <;> simp [upd, e, q2, q3, q4, q5]
theorem kRow_clear (hD : kRow full pA pB has fst snd 0 dr) {j : Nat} (hj : j < 8) : kRow (full &&& (((1 : Int32) <<< (nI j &&& 31)) ^^^ (-1))) pA pB (upd has j 0) fst snd 0 (fun d => if d = j then none else dr d) := by
  obtain ⟨F, hF, rfl, h⟩ := hD
  refine ⟨F &&& (255 ^^^ 2 ^ j), ?_, dr_clrB F hF j hj, ?_⟩
  · exact Nat.lt_of_le_of_lt Nat.and_le_left hF
  · intro d hd
    obtain ⟨h1, h2, h3⟩ := h d hd
    rw [Nat.zero_add] at h2 h3 ⊢
    have h255 : (255 : Nat).testBit d = true := by
      have : ∀ d, d < 8 → (255 : Nat).testBit d = true := by decide
      exact this d hd
    by_cases e : d = j
    · subst e
      refine ⟨?_, ?_, ?_⟩
      · simp [Nat.testBit_and, Nat.testBit_xor, Nat.testBit_two_pow_self, h255]
      · simp [upd]
      · intro a' b' e'; simp at e'
    · refine ⟨?_, ?_, ?_⟩
      · simp [Nat.testBit_and, Nat.testBit_xor, h1, e, Nat.testBit_two_pow, Ne.symm e, h255]
      · simp [upd, e, h2]
      · intro a' b' e'
        simp only [if_neg e] at e'
        exact h3 a' b' e'
end DRW
