/-! ===== the sum of signs ===== -/
theorem sgv_le (p w t : Nat) : sgv p w t ≤ 2 := by
  unfold sgv
  split
  · omega
  · split <;> omega
theorem sum_loop {N p w : Nat} (hN : 1048576 ≤ N) (h7 : 7 ≤ p) (hp : p ≤ 997) {A S O : Nat → Int32} (hA : ∀ i, 1 ≤ i → i < p → A i = nI (sgv p w i)) (hS : ∀ i, 1 ≤ i → i < p → S i = nI (sgv p w i)) (v2 : Int32) (hv2 : v2 = 0 ∨ v2 = 1 ∨ v2 = 2) (z1 z2 z3 z4 z5 z6 z7 z8 z9 z10 z11 ra rb : Int64) : ∀ (j n : Nat), 2 ≤ n → n + j = p → ∀ X Y : Int, (-n ≤ X ∧ X ≤ n) → (-n ≤ Y ∧ Y ≤ n) → ∃ r : Int32, (∀ (f : Nat) (sa sb : Int64), j < f → ∃ y, f_X10_sum_51 N f (iI p) v2 (nI n) z1 z2 z3 z4 z5 z6 z7 z8 z9 z10 z11 (lI X) (lI Y) sa sb A = some (r, y)) ∧ (∀ f : Nat, j < f → ∃ y, f_X11_sum_46 N f (iI p) v2 (iI X) (iI Y) (nI n) ra rb S O = some (r, y)) := by
  intro j
  induction j with
  | zero =>
    intro n hn hnj X Y hX hY
    obtain rfl : n = p := by omega
    have le : iI (n : Int) ≤ nI n := by rw [← iI_nI]; exact nI_le (Nat.le_refl _) (by omega)
    have lx : (iI X).toInt64 = lI X := iI_l ⟨by omega, by omega⟩
    have ly : (iI Y).toInt64 = lI Y := iI_l ⟨by omega, by omega⟩
    refine ⟨if v2 = 0 then iI X else if v2 = 1 then iI Y else iI (nrm X Y), fun f sa sb hf => ?_, fun f hf => ?_⟩
    · obtain ⟨f, rfl⟩ : ∃ f', f = f' + 1 := ⟨f - 1, by omega⟩
      rw [f_X10_sum_51, if_pos le]
      unfold f_X10_partOrNorm f_X10_part
      rcases hv2 with rfl | rfl | rfl
      · rw [if_neg (show ¬ (0 : Int32) = 2 by decide), if_pos rfl, if_pos rfl, Option.bind_some, Option.bind_some, lI_i]; exact ⟨_, rfl⟩
      · rw [if_neg (show ¬ (1 : Int32) = 2 by decide), if_neg j1, if_neg j1, if_pos rfl, Option.bind_some, Option.bind_some, lI_i]; exact ⟨_, rfl⟩
      · rw [if_pos rfl, if_neg (show ¬ (2 : Int32) = 0 by decide), if_neg (show ¬ (2 : Int32) = 1 by decide), s_norm, Option.bind_some, Option.bind_some, lI_i]; exact ⟨_, rfl⟩
    · obtain ⟨f, rfl⟩ : ∃ f', f = f' + 1 := ⟨f - 1, by omega⟩
      rw [f_X11_sum_46, if_pos le]
      rcases hv2 with rfl | rfl | rfl
      · rw [if_pos rfl, if_pos rfl]; exact ⟨_, rfl⟩
      · rw [if_neg j1, if_neg j1, if_pos rfl, if_pos rfl]; exact ⟨_, rfl⟩
      · rw [if_neg (show ¬ (2 : Int32) = 0 by decide), if_neg (show ¬ (2 : Int32) = 0 by decide), if_neg (show ¬ (2 : Int32) = 1 by decide), if_neg (show ¬ (2 : Int32) = 1 by decide), lx, ly, s_normOf, Option.bind_some]; exact ⟨_, rfl⟩
  | succ j ih =>
    intro n hn hnj X Y hX hY
    have ge : ¬ iI (p : Int) ≤ nI n := by rw [← iI_nI]; exact nI_ge (by omega) (by omega)
    have q : (iI (p : Int) + (1 : Int32)) - nI n = nI (p + 1 - n) := by
      rw [iI_nI, iI_nI, show (1 : Int32) = iI 1 from rfl, iI_add, iI_sub]
      exact congrArg iI (by omega)
    have ok1 : ¬ (nI n < 0 ∨ 997 ≤ (nI n).toNatClampNeg) := nI_in (by omega) (by decide)
    have ok2 : ¬ (nI (p + 1 - n) < 0 ∨ 997 ≤ (nI (p + 1 - n)).toNatClampNeg) := nI_in (by omega) (by decide)
    obtain ⟨s1, h1⟩ : ∃ s, s = sgv p w n := ⟨_, rfl⟩
    obtain ⟨s2, h2⟩ : ∃ s, s = sgv p w (p + 1 - n) := ⟨_, rfl⟩
    have l1' := sgv_le p w n
    have l2' := sgv_le p w (p + 1 - n)
    have a1 : A n = nI s1 := by rw [h1]; exact hA n (by omega) (by omega)
    have a2 : A (p + 1 - n) = nI s2 := by rw [h2]; exact hA _ (by omega) (by omega)
    have b1 : S n = nI s1 := by rw [h1]; exact hS n (by omega) (by omega)
    have b2 : S (p + 1 - n) = nI s2 := by rw [h2]; exact hS _ (by omega) (by omega)
    have m3 : (nI s1 + nI s2) - (nI s1 + nI s2) / (3 : Int32) * (3 : Int32) = nI ((s1 + s2) % 3) := by
      rw [nI_add, iI_nI, iI_nI]
      exact i_nmod (q := 3) (by omega) (by decide)
    obtain ⟨m, hm⟩ : ∃ m, m = (s1 + s2) % 3 := ⟨_, rfl⟩
    rw [← hm] at m3
    have m2 : (2 : Int32) * nI m = nI (2 * m) := by
      rw [iI_nI, iI_nI]
      exact nmm 2 m
    have m012 : m = 0 ∨ m = 1 ∨ m = 2 := by omega
    have stC : ∀ (f : Nat) (sa sb : Int64), ∃ sa' sb' : Int64, f_X10_sum_51 N (f + 1) (iI p) v2 (nI n) z1 z2 z3 z4 z5 z6 z7 z8 z9 z10 z11 (lI X) (lI Y) sa sb A = f_X10_sum_51 N f (iI p) v2 (nI (n + 1)) z1 z2 z3 z4 z5 z6 z7 z8 z9 z10 z11 (lI (X + (eit (2 * m) (1, 0)).1)) (lI (Y + (eit (2 * m) (1, 0)).2)) sa' sb' A := by
      intro f sa sb
      have mb := s_mbu hN 1 0 (u := 2 * m) (by omega)
      have mb' : f_X5_multiplyByUnit N (nI (2 * m)) 1 0 = some (lI (eit (2 * m) (1, 0)).1, lI (eit (2 * m) (1, 0)).2) := mb
      refine ⟨lI (eit (2 * m) (1, 0)).1, lI (eit (2 * m) (1, 0)).2, ?_⟩
      rw [f_X10_sum_51, if_neg ge, q, s_markAt (by omega), s_markAt (by omega), Option.bind_some, Option.bind_some, a1, a2, m3, m2]
      unfold f_X5_set f_X5_add
      rw [Option.bind_some]
      simp only []
      rw [mb', Option.bind_some, Option.bind_some, lI_add, lI_add, nI_1]
    have stR : ∀ f : Nat, f_X11_sum_46 N (f + 1) (iI p) v2 (iI X) (iI Y) (nI n) ra rb S O = f_X11_sum_46 N f (iI p) v2 (iI (X + (eit (2 * m) (1, 0)).1)) (iI (Y + (eit (2 * m) (1, 0)).2)) (nI (n + 1)) ra rb S O := by
      intro f
      rw [f_X11_sum_46, if_neg ge, q, if_neg ok1, if_neg ok2, nI_clamp (by omega), nI_clamp (by omega), b1, b2, m3]
      unfold f_X11_sum_96
      rw [nI_1, ← iI_add, ← iI_add]
      rcases m012 with z | z | z
      · rw [z]; rfl
      · rw [z]; rfl
      · rw [z]; rfl
    have bd : (-1 ≤ (eit (2 * m) (1, 0)).1 ∧ (eit (2 * m) (1, 0)).1 ≤ 1) ∧ (-1 ≤ (eit (2 * m) (1, 0)).2 ∧ (eit (2 * m) (1, 0)).2 ≤ 1) := by
      rcases m012 with z | z | z <;> rw [z] <;> exact ⟨⟨by decide, by decide⟩, ⟨by decide, by decide⟩⟩
    obtain ⟨r, rC, rR⟩ := ih (n + 1) (by omega) (by omega) (X + (eit (2 * m) (1, 0)).1) (Y + (eit (2 * m) (1, 0)).2) ⟨by omega, by omega⟩ ⟨by omega, by omega⟩
    refine ⟨r, fun f sa sb hf => ?_, fun f hf => ?_⟩
    · obtain ⟨f, rfl⟩ : ∃ f', f = f' + 1 := ⟨f - 1, by omega⟩
      obtain ⟨sa', sb', e⟩ := stC f sa sb
      rw [e]; exact rC f _ _ (by omega)
    · obtain ⟨f, rfl⟩ : ∃ f', f = f' + 1 := ⟨f - 1, by omega⟩
      rw [stR]; exact rR f (by omega)
