/-! ===== the points of the cubic curve ===== -/
section PTS
variable {N p w : Nat} {a b : Int}
def c3 (p t : Nat) : Nat := t ^ 3 % p
theorem tr_at (h7 : 7 ≤ p) (hp : p ≤ 997) (hr : rp p) (h : wOf p a b w) {A : Nat → Int32} (hA : ∀ i, i < 2000 → (A i = 0 ∧ isCub p i) ∨ (A i = 3 ∧ ¬ isCub p i)) {i : Nat} (hi : i < p) : f_X10_thirdRoots (nI i) A = some (nI (cn (c3 p) p i)) := by
  unfold f_X10_thirdRoots
  rcases Nat.eq_zero_or_pos i with z | z
  · subst z
    have e : cn (c3 p) p 0 = 1 := cn_zero hr
    rw [if_pos nI_0, e]; rfl
  · rw [if_neg (nI_ne0 z (by omega)), s_markAt (by omega), Option.bind_some]
    rcases hA i (by omega) with ⟨q1, q2⟩ | ⟨q1, q2⟩
    · have e : cn (c3 p) p i = 3 := cn_cub h7 hr h q2
      rw [if_pos q1, e]; rfl
    · have e : cn (c3 p) p i = 0 := cn_not (by omega) z q2
      rw [q1, if_neg (show ¬ (3 : Int32) = 0 by decide), e]; rfl
theorem pt_loop (h7 : 7 ≤ p) (hp : p ≤ 997) {A O : Nat → Int32} (hA : ∀ i, i < p → f_X10_thirdRoots (nI i) A = some (nI (cn (c3 p) p i))) (hO : ∀ i, i < p → O i = nI (cn (c3 p) p i)) : ∀ (j n : Nat), n + j = p → ∀ v : Int32, ∃ r : Int32, (∀ f : Nat, j < f → f_X10_pointsOf_4 N f (nI p) v (nI n) A = some r) ∧ (∀ f : Nat, j < f → f_X11_pointsOf_67 N f (nI p) v (nI n) O = some (r, O)) := by
  intro j
  induction j with
  | zero =>
    intro n hnj v
    obtain rfl : n = p := by omega
    have le : nI n ≤ nI n := nI_le (Nat.le_refl _) (by omega)
    refine ⟨v, fun f hf => ?_, fun f hf => ?_⟩
    · obtain ⟨f, rfl⟩ : ∃ f', f = f' + 1 := ⟨f - 1, by omega⟩
      rw [f_X10_pointsOf_4, if_pos le]
    · obtain ⟨f, rfl⟩ : ∃ f', f = f' + 1 := ⟨f - 1, by omega⟩
      rw [f_X11_pointsOf_67, if_pos le]
  | succ j ih =>
    intro n hnj v
    have ge : ¬ nI p ≤ nI n := nI_ge (by omega) (by omega)
    have p0 : ¬ nI p = 0 := nI_ne0 (by omega) (by omega)
    have q : (nI p + (1 : Int32)) - nI n = nI (p + 1 - n) := by
      rw [iI_nI, iI_nI, iI_nI, show (1 : Int32) = iI 1 from rfl, iI_add, iI_sub]
      exact congrArg iI (by omega)
    have ml := Nat.mod_lt (p + 1 - n) (show 0 < p by omega)
    have qm : nI (p + 1 - n) - nI (p + 1 - n) / nI p * nI p = nI ((p + 1 - n) % p) := by
      rw [iI_nI, iI_nI, iI_nI]
      exact i_nmod (by omega) (by omega)
    have ok1 : ¬ (nI n < 0 ∨ 997 ≤ (nI n).toNatClampNeg) := nI_in (by omega) (by decide)
    have ok2 : ¬ (nI ((p + 1 - n) % p) < 0 ∨ 997 ≤ (nI ((p + 1 - n) % p)).toNatClampNeg) := nI_in (by omega) (by decide)
    obtain ⟨r, rC, rR⟩ := ih (n + 1) (by omega) (v + nI (cn (c3 p) p n) * nI (cn (c3 p) p ((p + 1 - n) % p)))
    refine ⟨r, fun f hf => ?_, fun f hf => ?_⟩
    · obtain ⟨f, rfl⟩ : ∃ f', f = f' + 1 := ⟨f - 1, by omega⟩
      rw [f_X10_pointsOf_4, if_neg ge]
      by_cases c : 1 < n
      · have c1 : (1 : Int32) < nI n := nI_lt c (by omega)
        have e : (p + 1 - n) % p = p + 1 - n := Nat.mod_eq_of_lt (by omega)
        rw [e] at rC
        rw [if_pos c1]
        unfold f_X10_pointsOf_25
        rw [q, hA n (by omega), Option.bind_some, hA (p + 1 - n) (by omega), Option.bind_some, nI_1]
        exact rC f (by omega)
      · have c1 : ¬ (1 : Int32) < nI n := nI_nlt (b := n) (a := 1) (by omega) (by decide)
        have e : (p + 1 - n) % p = 1 - n := by
          have n01 : n = 0 ∨ n = 1 := by omega
          rcases n01 with rfl | rfl
          · rw [show p + 1 - 0 = p + 1 by omega, Nat.add_mod_left, Nat.mod_eq_of_lt (by omega)]
          · rw [show p + 1 - 1 = p by omega, Nat.mod_self]
        have q1 : (1 : Int32) - nI n = nI (1 - n) := by
          rw [iI_nI, iI_nI, show (1 : Int32) = iI 1 from rfl, iI_sub]
          exact congrArg iI (by omega)
        rw [e] at rC
        rw [if_neg c1]
        unfold f_X10_pointsOf_25
        rw [q1, hA n (by omega), Option.bind_some, hA (1 - n) (by omega), Option.bind_some, nI_1]
        exact rC f (by omega)
    · obtain ⟨f, rfl⟩ : ∃ f', f = f' + 1 := ⟨f - 1, by omega⟩
      rw [f_X11_pointsOf_67, if_neg ge, if_neg ok1, if_neg p0, q, qm, if_neg ok2, nI_clamp (by omega), nI_clamp (by omega), hO n (by omega), hO _ ml, nI_1]
      exact rR f (by omega)
theorem po_count (h7 : 7 ≤ p) (hp : p ≤ 997) : ∀ (j n : Nat), n + j = p → ∀ (f : Nat) (A : Nat → Int32), j < f → isC A p (c3 p) n → ∃ A', f_X11_pointsOf_22 N f (nI p) (nI n) A = f_X11_pointsOf_67 N N (nI p) 0 0 A' ∧ isC A' p (c3 p) p := by
  intro j
  induction j with
  | zero =>
    intro n hnj f A hf hA
    obtain ⟨f, rfl⟩ : ∃ f', f = f' + 1 := ⟨f - 1, by omega⟩
    obtain rfl : n = p := by omega
    have le : nI n ≤ nI n := nI_le (Nat.le_refl _) (by omega)
    exact ⟨A, by rw [f_X11_pointsOf_22, if_pos le], hA⟩
  | succ j ih =>
    intro n hnj f A hf hA
    obtain ⟨f, rfl⟩ : ∃ f', f = f' + 1 := ⟨f - 1, by omega⟩
    have ge : ¬ nI p ≤ nI n := nI_ge (by omega) (by omega)
    have p0 : ¬ nI p = 0 := nI_ne0 (by omega) (by omega)
    have ml := Nat.mod_lt (n * n) (show 0 < p by omega)
    have ml3 : c3 p n < p := Nat.mod_lt (n ^ 3) (show 0 < p by omega)
    have nn : n * n ≤ 997 * 997 := Nat.mul_le_mul (by omega) (by omega)
    have nn3 : n * n % p * n ≤ 997 * 997 := Nat.mul_le_mul (by omega) (by omega)
    have e1 : nI n * nI n - nI n * nI n / nI p * nI p = nI (n * n % p) := by
      rw [iI_nI, iI_nI, iI_nI, nmm, i_nmod (by omega) (by omega)]
    have e2 : nI (n * n % p) * nI n - nI (n * n % p) * nI n / nI p * nI p = nI (c3 p n) := by
      have e3 : n * n % p * n % p = c3 p n := by
        unfold c3
        rw [Nat.mul_mod, Nat.mod_mod, ← Nat.mul_mod, show n ^ 3 = n * n * n by grind]
      rw [iI_nI, iI_nI, iI_nI, iI_nI, nmm, i_nmod (by omega) (by omega), e3]
    have ok : ¬ (nI (c3 p n) < 0 ∨ 997 ≤ (nI (c3 p n)).toNatClampNeg) := nI_in (by omega) (by decide)
    rw [f_X11_pointsOf_22, if_neg ge, if_neg p0, if_neg p0, if_neg p0, if_neg p0, e1, e2, if_neg ok, if_neg ok, nI_clamp (by omega), nI_1]
    exact ih (n + 1) (by omega) f _ (by omega) (isC_step hA ml3)
theorem po_clear (hN : 1048576 ≤ N) (h7 : 7 ≤ p) (hp : p ≤ 997) : ∀ (j n : Nat), n + j = p → ∀ (f : Nat) (A : Nat → Int32), j < f → (∀ i, i < n → A i = 0) → ∃ A', f_X11_pointsOf_2 N f (nI p) (nI n) A = f_X11_pointsOf_67 N N (nI p) 0 0 A' ∧ isC A' p (c3 p) p := by
  intro j
  induction j with
  | zero =>
    intro n hnj f A hf hA
    obtain ⟨f, rfl⟩ : ∃ f', f = f' + 1 := ⟨f - 1, by omega⟩
    obtain rfl : n = p := by omega
    have le : nI n ≤ nI n := nI_le (Nat.le_refl _) (by omega)
    rw [f_X11_pointsOf_2, if_pos le]
    exact po_count h7 hp n 0 (by omega) N A (by omega) (fun i hi => hA i hi)
  | succ j ih =>
    intro n hnj f A hf hA
    obtain ⟨f, rfl⟩ : ∃ f', f = f' + 1 := ⟨f - 1, by omega⟩
    have ge : ¬ nI p ≤ nI n := nI_ge (by omega) (by omega)
    have ok : ¬ (nI n < 0 ∨ 997 ≤ (nI n).toNatClampNeg) := nI_in (by omega) (by decide)
    rw [f_X11_pointsOf_2, if_neg ge, if_neg ok, nI_clamp (by omega), nI_1]
    refine ih (n + 1) (by omega) f _ (by omega) (fun i hi => ?_)
    unfold upd
    by_cases c : i = n
    · rw [if_pos c]
    · rw [if_neg c]; exact hA i (by omega)
theorem s_points (hN : 1048576 ≤ N) (h7 : 7 ≤ p) (hp : p ≤ 997) (hr : rp p) (h : wOf p a b w) {A : Nat → Int32} (hA : ∀ i, i < 2000 → (A i = 0 ∧ isCub p i) ∨ (A i = 3 ∧ ¬ isCub p i)) (O : Nat → Int32) : ∃ (r : Int32) (O' : Nat → Int32), f_X10_pointsOf N (iI p) A = some r ∧ f_X11_pointsOf N (iI p) O = some (r, O') := by
  obtain ⟨O', o1, o2⟩ := po_clear hN h7 hp p 0 (by omega) N O (by omega) (fun i hi => by omega)
  obtain ⟨r, rC, rR⟩ := pt_loop (N := N) h7 hp (A := A) (O := O') (fun i hi => tr_at h7 hp hr h hA hi) o2 p 0 (by omega) 0
  have rC' := rC N (by omega)
  have rR' := rR N (by omega)
  rw [nI_0] at rC' rR' o1
  unfold f_X10_pointsOf f_X11_pointsOf
  rw [← iI_nI]
  exact ⟨r, O', rC', by rw [o1]; exact rR'⟩
end PTS
theorem q_sum (N : Nat) (hN : 1048576 ≤ N) (v1 v2 : Int32) (m_drawers_full m_drawers_kept : Int32) (m_drawers_partA m_drawers_partB m_drawers_keptA m_drawers_keptB m_drawers_keptFull : Nat → Int32) (m_tape_size : Int32) (m_tape_bytes : Nat → Int32) (m_modulus_step m_modulus_width m_modulus_slant m_modulus_square_a m_modulus_square_b : Int64) (m_primes_count : Int32) (m_primes_primeA m_primes_primeB : Nat → Int32) (m_one_a m_one_b m_two_a m_two_b m_four_a m_four_b m_out_a m_out_b m_spare_a m_spare_b : Int64) (m_marks : Nat → Int32) (m_taped m_states : Int32) (m_ra m_rb : Int64) (m_listed : Int32) (m_tape m_has m_keptHas m_first m_second m_keptFirst m_keptSecond m_signs m_often m_la0 m_lb0 : Nat → Int32) (hR : kR m_drawers_full m_drawers_kept m_drawers_partA m_drawers_partB m_drawers_keptA m_drawers_keptB m_drawers_keptFull m_tape_size m_tape_bytes m_primes_count m_primes_primeA m_primes_primeB m_taped m_tape m_has m_keptHas m_first m_second m_keptFirst m_keptSecond m_states m_la0 m_lb0 m_listed) : ∃ (y : Int32 × Int64 × Int64 × Int64 × Int64 × Int64 × Int64 × Int64 × Int64 × Int64 × Int64 × Int64 × Int64 × Int64 × Int64 × Int64 × (Nat → Int32)) (z : Int32 × Int64 × Int64 × (Nat → Int32) × (Nat → Int32)), f_X10_sum N v1 v2 m_modulus_step m_modulus_width m_modulus_slant m_modulus_square_a m_modulus_square_b m_one_a m_one_b m_two_a m_two_b m_four_a m_four_b m_out_a m_out_b m_spare_a m_spare_b m_marks = some y ∧ f_X11_sum N v1 v2 m_ra m_rb m_signs m_often = some z ∧ y.1 = z.1 ∧ kR m_drawers_full m_drawers_kept m_drawers_partA m_drawers_partB m_drawers_keptA m_drawers_keptB m_drawers_keptFull m_tape_size m_tape_bytes m_primes_count m_primes_primeA m_primes_primeB m_taped m_tape m_has m_keptHas m_first m_second m_keptFirst m_keptSecond m_states m_la0 m_lb0 m_listed := by
  have hR0 := hR
  unfold f_X10_sum f_X11_sum
  obtain ⟨t, e1, e2, ht⟩ := s_third hN v1
  rw [e1, e2, Option.bind_some, Option.bind_some]
  rcases ht with rfl | ⟨rfl, p, rfl, p1, p2, p3, p4⟩
  · rw [if_pos rfl, if_pos rfl]
    exact ⟨_, _, rfl, rfl, rfl, hR0⟩
  rw [if_neg j1, if_neg j1]
  obtain ⟨w, hw, rfl⟩ := iI_of v2
  have hlt : (iI w < 0) = (w < 0) := propext (iI_lt0 hw)
  have hle : (iI w ≤ 3) = (w ≤ 3) := propext (iI_le hw (b := 3) ⟨by decide, by decide⟩)
  have hin : f_X11_in (iI w).toInt64 0 3 = some (if 0 ≤ w ∧ w ≤ 3 then 1 else 0) := s_in32 hw (l := 0) (h := 3) ⟨by decide, by decide⟩ ⟨by decide, by decide⟩
  rw [hin, Option.bind_some]
  simp only [hlt, hle]
  by_cases cw : 0 ≤ w ∧ w ≤ 3
  · rw [if_neg (show ¬ w < 0 by omega), if_pos cw.2, if_pos cw, if_neg j1]
    obtain ⟨b, s, hs⟩ := spl_ex p1 (by omega) p3 p4
    by_cases c3 : w = 3
    · obtain ⟨A, a1, a2⟩ := s_markCubes hN (p := p) (by omega) p2 m_marks
      obtain ⟨-, hwo⟩ := spl_w p1 p2 p3 p4 hs
      obtain ⟨r, O', r1, r2⟩ := s_points hN p1 p2 p4 hwo a2 m_often
      have i3 : iI w = (3 : Int32) := by rw [c3]; rfl
      rw [if_pos i3, if_pos i3, a1, Option.bind_some, r1, r2, Option.bind_some, Option.bind_some]
      exact ⟨_, _, rfl, rfl, rfl, hR0⟩
    · have i3 : ¬ iI w = (3 : Int32) := by
        intro z
        exact c3 ((iI_eq hw (b := 3) ⟨by decide, by decide⟩).mp z)
      have hv : iI w = 0 ∨ iI w = 1 ∨ iI w = 2 := by
        have w3 : w = 0 ∨ w = 1 ∨ w = 2 := by omega
        rcases w3 with rfl | rfl | rfl
        · exact Or.inl rfl
        · exact Or.inr (Or.inl rfl)
        · exact Or.inr (Or.inr rfl)
      obtain ⟨S', l1, l2⟩ := s_laysSigns hN p1 p2 p3 p4 hs m_signs
      obtain ⟨x1, x2, x3, x4, x5, x6, x7, x8, x9, x10, x11, x12, x13, A', k1, k2⟩ := s_markSigns hN p1 p2 p3 p4 hs m_modulus_step m_modulus_width m_modulus_slant m_two_a m_two_b m_four_a m_four_b m_marks
      obtain ⟨r, rC, rR⟩ := sum_loop hN p1 p2 (O := m_often) k2 l2 (iI w) hv x1 x2 x3 x4 x5 x6 x7 x8 x9 x10 x11 (lI (spA b s)) (lI b) (p - 2) 2 (Nat.le_refl _) (by omega) 0 0 ⟨by omega, by omega⟩ ⟨by omega, by omega⟩
      obtain ⟨y, hy⟩ := rC N m_spare_a m_spare_b (by omega)
      obtain ⟨z, hz⟩ := rR N (by omega)
      have hy' : f_X10_sum_51 N N (iI p) (iI w) (2 : Int32) x1 x2 x3 x4 x5 x6 x7 x8 x9 x10 x11 (0 : Int64) (0 : Int64) m_spare_a m_spare_b A' = some (r, y) := hy
      have hz' : f_X11_sum_46 N N (iI p) (iI w) (0 : Int32) (0 : Int32) (2 : Int32) (lI (spA b s)) (lI b) S' m_often = some (r, z) := hz
      unfold f_X5_set
      rw [if_neg i3, if_neg i3, l1, k1, Option.bind_some, Option.bind_some, Option.bind_some]
      simp only []
      rw [hy', hz']
      exact ⟨_, _, rfl, rfl, rfl, hR0⟩
  · have cA : ∀ {α : Type} {P R : Option α}, (if w < 0 then P else if w ≤ 3 then R else P) = P := by
      intro α P R
      by_cases c1 : w < 0
      · rw [if_pos c1]
      · rw [if_neg c1, if_neg (by omega)]
    rw [cA, if_neg cw, if_pos rfl]
    exact ⟨_, _, rfl, rfl, rfl, hR0⟩
