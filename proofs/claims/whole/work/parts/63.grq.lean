/-! ===== greatest ===== -/
theorem q_greatest (N : Nat) (hN : 1048576 ≤ N) (v1 v2 : Int32) (m_drawers_full m_drawers_kept : Int32) (m_drawers_partA m_drawers_partB m_drawers_keptA m_drawers_keptB m_drawers_keptFull : Nat → Int32) (m_tape_size : Int32) (m_tape_bytes : Nat → Int32) (m_euclid_count : Int32) (m_euclid_last_a m_euclid_last_b m_euclid_lastOfFirst_a m_euclid_lastOfFirst_b m_euclid_lastOfSecond_a m_euclid_lastOfSecond_b m_euclid_next_a m_euclid_next_b m_euclid_nextOfFirst_a m_euclid_nextOfFirst_b m_euclid_nextOfSecond_a m_euclid_nextOfSecond_b m_euclid_q_a m_euclid_q_b : Int64) (m_euclid_quotientA m_euclid_quotientB : Nat → Int64) (m_modulus_step m_modulus_width m_modulus_slant : Int64) (m_primes_count : Int32) (m_primes_primeA m_primes_primeB : Nat → Int32) (m_one_a m_one_b m_two_a m_two_b m_out_a m_out_b m_spare_a m_spare_b : Int64) (m_marks : Nat → Int32) (m_taped m_states : Int32) (m_ra m_rb m_boxWide m_boxHigh m_boxStep : Int64) (m_listed : Int32) (m_tape m_has m_keptHas m_first m_second m_keptFirst m_keptSecond m_isOpen m_la0 m_lb0 : Nat → Int32) (hR : kR m_drawers_full m_drawers_kept m_drawers_partA m_drawers_partB m_drawers_keptA m_drawers_keptB m_drawers_keptFull m_tape_size m_tape_bytes m_primes_count m_primes_primeA m_primes_primeB m_taped m_tape m_has m_keptHas m_first m_second m_keptFirst m_keptSecond m_states m_la0 m_lb0 m_listed) : ∃ (y : Int32 × Int32 × Int64 × Int64 × Int64 × Int64 × Int64 × Int64 × Int64 × Int64 × Int64 × Int64 × Int64 × Int64 × Int64 × Int64 × (Nat → Int64) × (Nat → Int64) × Int64 × Int64 × Int64 × Int64 × Int64 × Int64 × Int64 × Int64 × Int64 × Int64 × Int64 × (Nat → Int32)) (z : Int32 × Int64 × Int64 × Int64 × Int64 × Int64 × (Nat → Int32)), f_X10_greatest N v1 v2 m_drawers_full m_drawers_partA m_drawers_partB m_euclid_count m_euclid_last_a m_euclid_last_b m_euclid_lastOfFirst_a m_euclid_lastOfFirst_b m_euclid_lastOfSecond_a m_euclid_lastOfSecond_b m_euclid_next_a m_euclid_next_b m_euclid_nextOfFirst_a m_euclid_nextOfFirst_b m_euclid_nextOfSecond_a m_euclid_nextOfSecond_b m_euclid_q_a m_euclid_q_b m_euclid_quotientA m_euclid_quotientB m_modulus_step m_modulus_width m_modulus_slant m_one_a m_one_b m_two_a m_two_b m_out_a m_out_b m_spare_a m_spare_b m_marks = some y ∧ f_X11_greatest N v1 v2 m_ra m_rb m_boxWide m_boxHigh m_boxStep m_has m_first m_second m_isOpen = some z ∧ y.1 = z.1 ∧ kR m_drawers_full m_drawers_kept m_drawers_partA m_drawers_partB m_drawers_keptA m_drawers_keptB m_drawers_keptFull m_tape_size m_tape_bytes m_primes_count m_primes_primeA m_primes_primeB m_taped m_tape m_has m_keptHas m_first m_second m_keptFirst m_keptSecond m_states m_la0 m_lb0 m_listed := by
  have hR0 := hR
  obtain ⟨⟨dr, hD⟩, hK, hT, hP⟩ := hR
  unfold f_X10_greatest f_X11_greatest
  rcases dr_cases v1 with h1 | ⟨i, hi, rfl⟩
  · rw [(dr_out h1).1, (dr_out h1).2, Option.bind_some, if_pos rfl, Option.bind_some, if_pos rfl]
    exact ⟨_, _, rfl, rfl, rfl, hR0⟩
  obtain ⟨w, hw, rfl⟩ := iI_of v2
  have hlt : (iI w < 0) = (w < 0) := propext (iI_lt0 hw)
  have hle : (iI w ≤ 1) = (w ≤ 1) := propext (iI_le hw (b := 1) ⟨by decide, by decide⟩)
  have hin : f_X11_in (iI w).toInt64 0 1 = some (if 0 ≤ w ∧ w ≤ 1 then 1 else 0) := s_in32 hw (l := 0) (h := 1) ⟨by decide, by decide⟩ ⟨by decide, by decide⟩
  rw [(dr_in hi).1, (dr_in hi).2, Option.bind_some, if_neg j1, Option.bind_some, if_neg j1, hin, Option.bind_some]
  simp only [hlt, hle]
  by_cases cw : 0 ≤ w ∧ w ≤ 1
  · rw [if_neg (show ¬ w < 0 by omega), if_pos cw.2, if_pos cw, if_neg j1]
    cases e1 : dr i with
    | none =>
      rw [s_has0 hD hi e1, Option.bind_some, if_pos rfl]
      simp only [hD.hasN hi e1, dr_cl hi, dr_n0 hi, dr_8 hi, or_self, if_false, if_true]
      exact ⟨_, _, rfl, rfl, rfl, hR0⟩
    | some p =>
      obtain ⟨c, d⟩ := p
      obtain ⟨hn, -, -, f1, g1⟩ := hD.num hi e1
      have hx := hn.eb
      rw [s_has1 hD hi e1, Option.bind_some, if_neg j1, s_load hD hi e1, Option.bind_some]
      simp only [hD.has1 hi e1, dr_cl hi, dr_n0 hi, dr_8 hi, or_self, if_false, f1, g1, iI_l hn.b32.1, iI_l hn.b32.2, z10]
      rcases few_cases hN hD hi e1 (L := 500) ⟨by decide, by decide⟩ m_modulus_step m_modulus_width m_modulus_slant with ⟨⟨y, k1⟩, k2⟩ | ⟨H, W, S, b1, b2, hB, k1, k2, k3⟩
      · have k1' : f_X4_openFew N 500 m_modulus_step m_modulus_width m_modulus_slant (lI c) (lI d) = some (0, y) := k1
        have k2' : f_X11_isGreat (nI i) 500 m_first m_second = some 1 := k2
        rw [k1', k2', Option.bind_some, Option.bind_some, if_pos rfl, if_neg j1]
        exact ⟨_, _, rfl, rfl, rfl, hR0⟩
      · have k1' : f_X4_openFew N 500 m_modulus_step m_modulus_width m_modulus_slant (lI c) (lI d) = some (1, lI H, lI W, lI S) := k1
        have k2' : f_X11_isGreat (nI i) 500 m_first m_second = some 0 := k2
        have b3 : en (c, d) ≤ 2000 := Int.le_trans b1 (by decide)
        obtain ⟨n1, n2, n3, n4⟩ := bx_nat hB b3
        have hWH : W * 1 ≤ W * H := Nat.mul_le_mul_left W n1
        obtain ⟨ra2, rb2, O, o1, o2⟩ := lo_loop hN hB b3 (W * H) 0 (by omega) N m_ra m_rb m_isOpen (by omega) (fun i hi => absurd hi (by omega))
        have o1' : f_X11_laysOpen N (lI c) (lI d) m_ra m_rb (lI W) (lI H) m_isOpen = some (ra2, rb2, O) := o1
        obtain ⟨A0, a1, a2⟩ := s_clear hN 0 m_marks
        obtain ⟨ec2, e12, e22, e32, e42, e52, e62, e72, e82, e92, e102, e112, e122, e132, e142, QA2, QB2, oa2, ob2, ua2, ub2, sa2, sb2, A, r1, r2, r3⟩ := mo_all hN hB b3 H 0 (by omega) N m_euclid_count m_euclid_last_a m_euclid_last_b m_euclid_lastOfFirst_a m_euclid_lastOfFirst_b m_euclid_lastOfSecond_a m_euclid_lastOfSecond_b m_euclid_next_a m_euclid_next_b m_euclid_nextOfFirst_a m_euclid_nextOfFirst_b m_euclid_nextOfSecond_a m_euclid_nextOfSecond_b m_euclid_q_a m_euclid_q_b m_euclid_quotientA m_euclid_quotientB m_one_a m_one_b m_out_a m_out_b m_spare_a m_spare_b A0 (by omega) (fun i hi => Or.inl (a2 i (by omega))) (fun i hi => absurd hi (by omega))
        obtain ⟨r, rC, rR⟩ := gr_scan hN hB b3 (iI w) r2 r3 o2 ec2 e12 e22 e32 e42 e52 e62 e72 e82 e92 e102 e112 e122 e132 e142 QA2 QB2 oa2 ob2 (lI c) (lI d) ua2 ub2 sa2 sb2 (W * H) 0 (by omega) 0 0 0 (by omega) (fun _ => rfl) (fun i hi => absurd hi (by omega))
        obtain ⟨yc, eC⟩ := rC N (by omega)
        obtain ⟨yr, eR⟩ := rR N ra2 rb2 (by omega)
        rw [show nI 0 = 0 from rfl] at eC eR
        rw [show lI ((0 : Nat) : Int) = 0 from rfl] at r1
        rw [k1', k2', Option.bind_some, Option.bind_some, if_neg j1, if_pos rfl, k3, Option.bind_some]
        simp only []
        rw [o1', Option.bind_some]
        unfold f_X10_markOrders
        rw [a1, Option.bind_some, r1, Option.bind_some]
        simp only []
        rw [eC, eR]
        exact ⟨_, _, rfl, rfl, rfl, hR0⟩
  · have cA : ∀ {α : Type} {P R : Option α}, (if w < 0 then P else if w ≤ 1 then R else P) = P := by
      intro α P R
      by_cases c1 : w < 0
      · rw [if_pos c1]
      · rw [if_neg c1, if_neg (by omega)]
    rw [cA, if_neg cw, if_pos rfl]
    exact ⟨_, _, rfl, rfl, rfl, hR0⟩
