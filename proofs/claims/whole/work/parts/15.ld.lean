/-! ===== numbers out of drawers ===== -/
theorem iI_0 {a : Int} (ha : b32 a) : iI a = 0 ↔ a = 0 := by rw [i0]; exact iI_eq ha ⟨by decide, by decide⟩
theorem iI_lt0 {a : Int} (ha : b32 a) : iI a < 0 ↔ a < 0 := by rw [i0]; exact iI_lt ha ⟨by decide, by decide⟩
theorem iI_0le {a : Int} (ha : b32 a) : 0 ≤ iI a ↔ 0 ≤ a := by rw [i0]; exact iI_le ⟨by decide, by decide⟩ ha
theorem kNum.b32 {a b : Int} (h : kNum a b) : b32 a ∧ b32 b := by
  obtain ⟨h1, h2, h3, h4⟩ := h
  exact ⟨⟨by omega, by omega⟩, ⟨by omega, by omega⟩⟩
theorem kNum.b64 {a b : Int} (h : kNum a b) : b64 a ∧ b64 b := ⟨b64_of32 h.b32.1, b64_of32 h.b32.2⟩
theorem s_in32 {w l h : Int} (hw : b32 w) (hl : b64 l) (hh : b64 h) : f_X11_in (iI w).toInt64 (lI l) (lI h) = some (if l ≤ w ∧ w ≤ h then 1 else 0) := by
  rw [iI_l hw]; exact s_in (b64_of32 hw) hl hh
section LD
variable {full : Int32} {pA pB has fst snd : Nat → Int32} {dr : Nat → Option (Int × Int)}
theorem s_load (hD : kRow full pA pB has fst snd 0 dr) {j : Nat} (hj : j < 8) {a b : Int} (e : dr j = some (a, b)) (x y : Int64) : f_X0_load (nI j) pA pB x y = some (lI a, lI b) := by
  obtain ⟨hn, e1, e2, -, -⟩ := hD.num hj e
  unfold f_X0_load
  simp only [Option.bind_some, (dr_in hj).1, dr_cl hj, dr_n0 hj, dr_8 hj, or_self, z10, if_false, f_X5_set, e1, e2, iI_l hn.b32.1, iI_l hn.b32.2]
theorem s_has1 (hD : kRow full pA pB has fst snd 0 dr) {j : Nat} (hj : j < 8) {a b : Int} (e : dr j = some (a, b)) : f_X0_has (nI j) full = some 1 := by
  rw [s_has hD hj, e]; rfl
theorem s_has0 (hD : kRow full pA pB has fst snd 0 dr) {j : Nat} (hj : j < 8) (e : dr j = none) : f_X0_has (nI j) full = some 0 := by
  rw [s_has hD hj, e]; rfl
theorem kRow.has1 (hD : kRow full pA pB has fst snd 0 dr) {j : Nat} (hj : j < 8) {a b : Int} (e : dr j = some (a, b)) : has j = 1 := by
  rw [hD.has0 hj, e]; rfl
theorem kRow.hasN (hD : kRow full pA pB has fst snd 0 dr) {j : Nat} (hj : j < 8) (e : dr j = none) : has j = 0 := by
  rw [hD.has0 hj, e]; rfl
/-- two drawers: one is no drawer, one is empty, or both have numbers -/
theorem dr_two (dr : Nat → Option (Int × Int)) (v1 v2 : Int32) : ((v1 < 0 ∨ (8 : Int32) ≤ v1) ∨ (v2 < 0 ∨ (8 : Int32) ≤ v2)) ∨ ∃ i j : Nat, i < 8 ∧ j < 8 ∧ v1 = nI i ∧ v2 = nI j ∧ ((dr i = none ∨ dr j = none) ∨ ∃ a b c d : Int, dr i = some (a, b) ∧ dr j = some (c, d)) := by
  rcases dr_cases v1 with h | ⟨i, hi, rfl⟩
  · exact Or.inl (Or.inl h)
  rcases dr_cases v2 with h | ⟨j, hj, rfl⟩
  · exact Or.inl (Or.inr h)
  refine Or.inr ⟨i, j, hi, hj, rfl, rfl, ?_⟩
  cases e : dr i with
  | none => exact Or.inl (Or.inl rfl)
  | some p =>
    cases e' : dr j with
    | none => exact Or.inl (Or.inr rfl)
    | some q => exact Or.inr ⟨p.1, p.2, q.1, q.2, rfl, rfl⟩
theorem s_two_out {v1 v2 : Int32} (h : (v1 < 0 ∨ (8 : Int32) ≤ v1) ∨ (v2 < 0 ∨ (8 : Int32) ≤ v2)) (x y z w : Int64) : f_X10_loadTwo v1 v2 full pA pB x y z w = some (-1, x, y, z, w) := by
  unfold f_X10_loadTwo
  rcases h with h | h
  · simp only [Option.bind_some, (dr_out h).1, z00, if_true]
  · rcases dr_cases v1 with h' | ⟨i, hi, rfl⟩
    · simp only [Option.bind_some, (dr_out h').1, z00, if_true]
    · simp only [Option.bind_some, (dr_in hi).1, (dr_out h).1, z00, if_true, z10, if_false]
theorem s_two_none (hD : kRow full pA pB has fst snd 0 dr) {i j : Nat} (hi : i < 8) (hj : j < 8) (h : dr i = none ∨ dr j = none) (x y z w : Int64) : f_X10_loadTwo (nI i) (nI j) full pA pB x y z w = some (-2, x, y, z, w) := by
  unfold f_X10_loadTwo
  simp only [Option.bind_some, (dr_in hi).1, (dr_in hj).1, z10, if_false]
  cases e : dr i with
  | none => simp only [s_has0 hD hi e, Option.bind_some, z00, if_true]
  | some p =>
    have e' : dr j = none := by
      rcases h with h | h
      · rw [h] at e; exact absurd e (by simp)
      · exact h
    simp only [s_has1 hD hi (a := p.1) (b := p.2) e, s_has0 hD hj e', Option.bind_some, z00, if_true, z10, if_false]
theorem s_two (hD : kRow full pA pB has fst snd 0 dr) {i j : Nat} (hi : i < 8) (hj : j < 8) {a b c d : Int} (e1 : dr i = some (a, b)) (e2 : dr j = some (c, d)) (x y z w : Int64) : f_X10_loadTwo (nI i) (nI j) full pA pB x y z w = some (0, lI a, lI b, lI c, lI d) := by
  unfold f_X10_loadTwo
  simp only [Option.bind_some, (dr_in hi).1, (dr_in hj).1, z10, if_false, s_has1 hD hi e1, s_has1 hD hj e2, s_load hD hi e1, s_load hD hj e2]
theorem s_both_out {v1 v2 : Int32} (h : (v1 < 0 ∨ (8 : Int32) ≤ v1) ∨ (v2 < 0 ∨ (8 : Int32) ≤ v2)) : f_X11_isDrawer v1 = some 0 ∨ (f_X11_isDrawer v1 = some 1 ∧ f_X11_isDrawer v2 = some 0) := by
  rcases h with h | h
  · exact Or.inl (dr_out h).2
  · rcases dr_cases v1 with h' | ⟨i, hi, rfl⟩
    · exact Or.inl (dr_out h').2
    · exact Or.inr ⟨(dr_in hi).2, (dr_out h).2⟩
theorem s_hasBoth (hD : kRow full pA pB has fst snd 0 dr) {i j : Nat} (hi : i < 8) (hj : j < 8) : f_X11_hasBoth (nI i) (nI j) has = some (if (dr i).isSome && (dr j).isSome then 1 else 0) := by
  unfold f_X11_hasBoth
  simp only [dr_cl hi, dr_n0 hi, dr_8 hi, dr_cl hj, dr_n0 hj, dr_8 hj, or_self, if_false, hD.has0 hi, hD.has0 hj]
  cases (dr i).isSome <;> cases (dr j).isSome <;> rfl
theorem s_isNothing (hD : kRow full pA pB has fst snd 0 dr) {j : Nat} (hj : j < 8) {a b : Int} (e : dr j = some (a, b)) : f_X11_isNothing (nI j) fst snd = some (if a = 0 ∧ b = 0 then 1 else 0) := by
  obtain ⟨hn, -, -, e1, e2⟩ := hD.num hj e
  unfold f_X11_isNothing
  simp only [dr_cl hj, dr_n0 hj, dr_8 hj, or_self, if_false, e1, e2, iI_0 hn.b32.1, iI_0 hn.b32.2]
  by_cases h1 : a = 0
  · by_cases h2 : b = 0
    · simp only [h1, h2, if_true, and_self]
    · simp only [h1, h2, if_true, if_false, and_false]
  · simp only [h1, if_false, false_and]
end LD
theorem s_isNought {a b : Int} (ha : b64 a) (hb : b64 b) : f_X5_isNought (lI a) (lI b) = some (if a = 0 ∧ b = 0 then 1 else 0) := by
  unfold f_X5_isNought
  simp only [lI_0 ha, lI_0 hb]
  by_cases h1 : a = 0
  · by_cases h2 : b = 0
    · simp only [h1, h2, if_true, and_self]
    · simp only [h1, h2, if_true, if_false, and_false]
  · simp only [h1, if_false, false_and]
theorem s_abs {a : Int} (ha : b64 a) : f_J9_abs_067f4 (lI a) = some (lI a.natAbs) := by
  unfold f_J9_abs_067f4
  simp only [lI_0le ha, lI_neg]
  by_cases h : 0 ≤ a
  · rw [if_pos h]; congr 2; omega
  · rw [if_neg h]; congr 2; omega
theorem s_without {a : Int} (ha : b64 a) : f_X11_without (lI a) = some (lI a.natAbs) := s_abs ha
theorem s_max {a b : Int} (ha : b64 a) (hb : b64 b) : f_J9_max_f86c9 (lI a) (lI b) = some (lI (max a b)) := by
  unfold f_J9_max_f86c9
  simp only [lI_lt ha hb]
  by_cases h : a < b
  · rw [if_pos h]; congr 2; omega
  · rw [if_neg h]; congr 2; omega
