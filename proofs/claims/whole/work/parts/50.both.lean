/-! ===== both ===== -/
theorem part_le2 {c d : Int} (h0 : (c, d) ≠ (0, 0)) : (-(2 * nrm c d) ≤ c ∧ c ≤ 2 * nrm c d) ∧ (-(2 * nrm c d) ≤ d ∧ d ≤ 2 * nrm c d) := by
  have hp : 1 ≤ nrm c d := en_pos h0
  have h1 := nrm4 c d
  have h2 := nrm4' c d
  have s1 := sq_nn (2 * c - d)
  have s2 := sq_nn (2 * d - c)
  have k : nrm c d ≤ nrm c d * nrm c d := by
    have := Int.mul_le_mul_of_nonneg_right hp (show 0 ≤ nrm c d by omega)
    omega
  have e : 2 * nrm c d * (2 * nrm c d) = 4 * (nrm c d * nrm c d) := by grind
  have a1 := sq_nn c
  have a2 := sq_nn d
  exact ⟨sq_lt (by omega) (by omega), sq_lt (by omega) (by omega)⟩
theorem s_join {N : Nat} (hN : 1048576 ≤ N) {a b c d p q g h : Int} (h1 : kNum a b) (h2 : kNum c d) (h3 : kNum p q) (h4 : kNum g h) (z2 : (c, d) ≠ (0, 0)) (z4 : (g, h) ≠ (0, 0)) (hs : kNum (em (c, d) (g, h)).1 (em (c, d) (g, h)).2) {z : Int × Int} (hz : (-100000 ≤ z.1 ∧ z.1 ≤ 100000) ∧ (-100000 ≤ z.2 ∧ z.2 ≤ 100000)) (ms mw mt : Int64) : ∃ (H W S H' W' S' : Int) (k r : Int × Int), f_X11_laysBox N (lI g) (lI h) = some (lI W, lI H, lI S) ∧ f_X11_boxes (lI z.1) (lI z.2) (lI W) (lI H) (lI S) = some (lI (rs H W S z).1, lI (rs H W S z).2) ∧ f_X11_timesIn (lI (rs H W S z).1) (lI (rs H W S z).2) (lI (p - a)) (lI (q - b)) (lI W) (lI H) (lI S) = some (lI k.1, lI k.2) ∧ f_X11_laysBox N (lI (em (c, d) (g, h)).1) (lI (em (c, d) (g, h)).2) = some (lI W', lI H', lI S') ∧ f_X11_boxes (lI ((em k (c, d)).1 + a)) (lI ((em k (c, d)).2 + b)) (lI W') (lI H') (lI S') = some (lI r.1, lI r.2) ∧ ∃ y1 y2 y3 y4 y5 : Int64, f_X10_joinClasses N ms mw mt (lI a) (lI b) (lI c) (lI d) (lI p) (lI q) (lI g) (lI h) (lI z.1) (lI z.2) (lI (em (c, d) (g, h)).1) (lI (em (c, d) (g, h)).2) = some (y1, y2, y3, y4, y5, lI r.1, lI r.2) := by
  have zs := em_ne z2 z4
  obtain ⟨H, W, S, B, O, L⟩ := s_box hN h4.eb z4
  obtain ⟨H', W', S', B', O', L'⟩ := s_box hN hs.eb zs
  obtain ⟨a1, a2, a3, a4⟩ := h1
  obtain ⟨p1, p2, p3, p4⟩ := h3
  have bb := bx_bd B h4.eb
  have k1 := small_ok B h4.eb (x := z.1) (y := z.2) ⟨by omega, by omega⟩ ⟨by omega, by omega⟩
  have k2 := small_ok B h4.eb (x := p - a) (y := q - b) ⟨by omega, by omega⟩ ⟨by omega, by omega⟩
  have hr := rs_isR B z
  have ht := rs_isR B (p - a, q - b)
  obtain ⟨r1, r2, r3, r4⟩ := hr
  -- the reference's product, not reduced
  have m1 := mul_bd (show -300000000 ≤ (rs H W S z).1 by omega) (show (rs H W S z).1 ≤ 300000000 by omega) (show -20000 ≤ p - a by omega) (show p - a ≤ 20000 by omega)
  have m2 := mul_bd (show -300000000 ≤ (rs H W S z).2 by omega) (show (rs H W S z).2 ≤ 300000000 by omega) (show -20000 ≤ q - b by omega) (show q - b ≤ 20000 by omega)
  have m3 := mul_bd (show -300000000 ≤ (rs H W S z).1 by omega) (show (rs H W S z).1 ≤ 300000000 by omega) (show -20000 ≤ q - b by omega) (show q - b ≤ 20000 by omega)
  have m4 := mul_bd (show -300000000 ≤ (rs H W S z).2 by omega) (show (rs H W S z).2 ≤ 300000000 by omega) (show -20000 ≤ p - a by omega) (show p - a ≤ 20000 by omega)
  have f1 : (em (rs H W S z) (p - a, q - b)).1 = (rs H W S z).1 * (p - a) - (rs H W S z).2 * (q - b) := rfl
  have f2 : (em (rs H W S z) (p - a, q - b)).2 = (rs H W S z).1 * (q - b) + (rs H W S z).2 * (p - a) - (rs H W S z).2 * (q - b) := rfl
  have h8 := Int.emod_nonneg ((em (rs H W S z) (p - a, q - b)).2 / H) (show W ≠ 0 by omega)
  have h9 := Int.emod_lt_of_pos ((em (rs H W S z) (p - a, q - b)).2 / H) (show 0 < W by omega)
  have h10 := mul_bd (show -300000000 ≤ (em (rs H W S z) (p - a, q - b)).2 / H % W by omega) (show (em (rs H W S z) (p - a, q - b)).2 / H % W ≤ 300000000 by omega) (show -300000000 ≤ S by omega) (show S ≤ 300000000 by omega)
  have bR := s_boxes B h4.eb (x := (em (rs H W S z) (p - a, q - b)).1) (y := (em (rs H W S z) (p - a, q - b)).2) ⟨by omega, by omega⟩ ⟨by omega, by omega⟩
  obtain ⟨k, hk⟩ : ∃ k, k = rs H W S (em (rs H W S z) (p - a, q - b)) := ⟨_, rfl⟩
  have kR : isR H W k := by rw [hk]; exact rs_isR B _
  have bC := s_red_mul B h4.eb (rs_isR B z) ht
  rw [rs_mul' B, ← hk, s_multiply, Option.bind_some] at bC
  have bR' : f_X11_boxes (lI (em (rs H W S z) (p - a, q - b)).1) (lI (em (rs H W S z) (p - a, q - b)).2) (lI W) (lI H) (lI S) = some (lI k.1, lI k.2) := by rw [hk]; exact bR
  -- the last number is not large
  have hsn : nrm (em (c, d) (g, h)).1 (em (c, d) (g, h)).2 ≤ 300000000 := hs.eb
  have hsm : nrm (em (c, d) (g, h)).1 (em (c, d) (g, h)).2 = nrm c d * nrm g h := en_em (c, d) (g, h)
  have pl := part_le2 z2
  have n2 : 1 ≤ nrm c d := en_pos z2
  obtain ⟨kr1, kr2, kr3, kr4⟩ := kR
  have hWn : W ≤ nrm g h := by
    have e : H * W = nrm g h := B.2.2.1
    have := Int.mul_le_mul_of_nonneg_right bb.1 (show 0 ≤ W by omega)
    omega
  have gn : ∀ u v : Int, 0 ≤ u → u ≤ nrm g h → -(2 * nrm c d) ≤ v → v ≤ 2 * nrm c d → -600000000 ≤ u * v ∧ u * v ≤ 600000000 := by
    intro u v u1 u2 v1 v2
    have q1 := mul_bd (show -(nrm g h) ≤ u by omega) u2 v1 v2
    have e : nrm g h * (2 * nrm c d) = 2 * (nrm c d * nrm g h) := by grind
    omega
  have w1 := gn k.1 c kr1 (by omega) pl.1.1 pl.1.2
  have w2 := gn k.2 d kr3 (by omega) pl.2.1 pl.2.2
  have w3 := gn k.1 d kr1 (by omega) pl.2.1 pl.2.2
  have w4 := gn k.2 c kr3 (by omega) pl.1.1 pl.1.2
  have f3 : (em k (c, d)).1 = k.1 * c - k.2 * d := rfl
  have f4 : (em k (c, d)).2 = k.1 * d + k.2 * c - k.2 * d := rfl
  have k3 := small_ok B' hs.eb (x := (em k (c, d)).1 + a) (y := (em k (c, d)).2 + b) ⟨by omega, by omega⟩ ⟨by omega, by omega⟩
  refine ⟨H, W, S, H', W', S', k, rs H' W' S' ((em k (c, d)).1 + a, (em k (c, d)).2 + b), L, s_boxes B h4.eb k1.1 k1.2.2, ?_, L', s_boxes B' hs.eb k3.1 k3.2.2, ?_⟩
  · unfold f_X11_timesIn
    rw [s_times, Option.bind_some, bR', Option.bind_some]
  · unfold f_X10_joinClasses f_X5_subtract f_X5_add
    rw [O, Option.bind_some, s_reduce B h4.eb k1.1 k1.2.1, Option.bind_some, Option.bind_some, lI_sub, lI_sub, s_reduce B h4.eb k2.1 k2.2.1, Option.bind_some, s_multiply, Option.bind_some, bC, Option.bind_some, s_multiply, Option.bind_some, Option.bind_some, lI_add, lI_add, O', Option.bind_some, s_reduce B' hs.eb k3.1 k3.2.1, Option.bind_some]
    exact ⟨_, _, _, _, _, rfl⟩
theorem q_both (N : Nat) (hN : 1048576 ≤ N) (v1 v2 v3 v4 v5 : Int32) (m_drawers_full m_drawers_kept : Int32) (m_drawers_partA m_drawers_partB m_drawers_keptA m_drawers_keptB m_drawers_keptFull : Nat → Int32) (m_tape_size : Int32) (m_tape_bytes : Nat → Int32) (m_euclid_count : Int32) (m_euclid_last_a m_euclid_last_b m_euclid_lastOfFirst_a m_euclid_lastOfFirst_b m_euclid_lastOfSecond_a m_euclid_lastOfSecond_b m_euclid_next_a m_euclid_next_b m_euclid_nextOfFirst_a m_euclid_nextOfFirst_b m_euclid_nextOfSecond_a m_euclid_nextOfSecond_b m_euclid_q_a m_euclid_q_b : Int64) (m_euclid_quotientA m_euclid_quotientB : Nat → Int64) (m_modulus_step m_modulus_width m_modulus_slant : Int64) (m_primes_count : Int32) (m_primes_primeA m_primes_primeB : Nat → Int32) (m_one_a m_one_b m_two_a m_two_b m_three_a m_three_b m_four_a m_four_b m_out_a m_out_b m_spare_a m_spare_b : Int64) (m_taped m_states : Int32) (m_ra m_rb m_boxWide m_boxHigh m_boxStep : Int64) (m_partingMany : Int32) (m_qa m_qb m_la m_lb m_sa m_sb m_ta m_tb : Int64) (m_listed : Int32) (m_tape m_has m_keptHas m_first m_second m_keptFirst m_keptSecond m_la0 m_lb0 : Nat → Int32) (hR : kR m_drawers_full m_drawers_kept m_drawers_partA m_drawers_partB m_drawers_keptA m_drawers_keptB m_drawers_keptFull m_tape_size m_tape_bytes m_primes_count m_primes_primeA m_primes_primeB m_taped m_tape m_has m_keptHas m_first m_second m_keptFirst m_keptSecond m_states m_la0 m_lb0 m_listed) : ∃ (y : Int32 × Int32 × Int64 × Int64 × Int64 × Int64 × Int64 × Int64 × Int64 × Int64 × Int64 × Int64 × Int64 × Int64 × Int64 × Int64 × (Nat → Int64) × (Nat → Int64) × Int64 × Int64 × Int64 × Int64 × Int64 × Int64 × Int64 × Int64 × Int64 × Int64 × Int64 × Int64 × Int64 × Int64 × Int64) (z : Int32 × Int64 × Int64 × Int64 × Int64 × Int64 × Int32 × Int64 × Int64 × Int64 × Int64 × Int64 × Int64 × Int64 × Int64), f_X10_both N v1 v2 v3 v4 v5 m_drawers_full m_drawers_partA m_drawers_partB m_euclid_count m_euclid_last_a m_euclid_last_b m_euclid_lastOfFirst_a m_euclid_lastOfFirst_b m_euclid_lastOfSecond_a m_euclid_lastOfSecond_b m_euclid_next_a m_euclid_next_b m_euclid_nextOfFirst_a m_euclid_nextOfFirst_b m_euclid_nextOfSecond_a m_euclid_nextOfSecond_b m_euclid_q_a m_euclid_q_b m_euclid_quotientA m_euclid_quotientB m_modulus_step m_modulus_width m_modulus_slant m_one_a m_one_b m_two_a m_two_b m_three_a m_three_b m_four_a m_four_b m_out_a m_out_b m_spare_a m_spare_b = some y ∧ f_X11_both N v1 v2 v3 v4 v5 m_ra m_rb m_boxWide m_boxHigh m_boxStep m_partingMany m_qa m_qb m_la m_lb m_sa m_sb m_ta m_tb m_has m_first m_second = some z ∧ y.1 = z.1 ∧ kR m_drawers_full m_drawers_kept m_drawers_partA m_drawers_partB m_drawers_keptA m_drawers_keptB m_drawers_keptFull m_tape_size m_tape_bytes m_primes_count m_primes_primeA m_primes_primeB m_taped m_tape m_has m_keptHas m_first m_second m_keptFirst m_keptSecond m_states m_la0 m_lb0 m_listed := by
  have hR0 := hR
  obtain ⟨⟨dr, hD⟩, hK, hT, hP⟩ := hR
  unfold f_X10_both f_X11_both
  rcases dr_cases v1 with h1 | ⟨i, hi, rfl⟩
  · rw [s_areD_out (Or.inl h1)]
    simp only [(dr_out h1).1, Option.bind_some, z00, if_true, f_X10_both_34]
    exact ⟨_, _, rfl, rfl, rfl, hR0⟩
  rcases dr_cases v2 with h1 | ⟨j, hj, rfl⟩
  · rw [s_areD_out (Or.inr h1)]
    simp only [(dr_in hi).1, (dr_out h1).1, Option.bind_some, z00, z10, if_true, if_false, f_X10_both_34]
    exact ⟨_, _, rfl, rfl, rfl, hR0⟩
  obtain ⟨w, hw, rfl⟩ := iI_of v5
  rw [s_areD hi hj hw]
  have two : ∀ {α : Type} {P R : Option α}, f_X11_areDrawers v3 v4 (iI w) = some 0 → ((some (if 0 ≤ w ∧ w ≤ 1 then (1 : Int32) else 0)).bind fun y4 => if y4 = 0 then P else (f_X11_areDrawers v3 v4 (iI w)).bind fun y15 => if y15 = 0 then P else R) = P := by
    intro α P R h
    rw [Option.bind_some, h, Option.bind_some, if_pos rfl]
    split <;> rfl
  rcases dr_cases v3 with h1 | ⟨k, hk, rfl⟩
  · rw [two (s_areD_out (Or.inl h1) _)]
    simp only [(dr_in hi).1, (dr_in hj).1, (dr_out h1).1, Option.bind_some, z00, z10, if_true, if_false, f_X10_both_34]
    exact ⟨_, _, rfl, rfl, rfl, hR0⟩
  rcases dr_cases v4 with h1 | ⟨l, hl, rfl⟩
  · rw [two (s_areD_out (Or.inr h1) _)]
    simp only [(dr_in hi).1, (dr_in hj).1, (dr_in hk).1, (dr_out h1).1, Option.bind_some, z00, z10, if_true, if_false, f_X10_both_34]
    exact ⟨_, _, rfl, rfl, rfl, hR0⟩
  have hlt : (iI w < 0) = (w < 0) := propext (iI_lt0 hw)
  have hle : (iI w ≤ 1) = (w ≤ 1) := propext (iI_le hw (b := 1) ⟨by decide, by decide⟩)
  rw [s_areD hk hl hw, s_hasBoth hD hi hj, s_hasBoth hD hk hl]
  simp only [(dr_in hi).1, (dr_in hj).1, (dr_in hk).1, (dr_in hl).1, Option.bind_some, z10, if_false]
  unfold f_X10_both_34
  simp only [z10, if_false, hlt, hle]
  by_cases cw : 0 ≤ w ∧ w ≤ 1
  · rw [if_neg (show ¬ w < 0 by omega), if_pos cw.2]
    simp only [cw, and_self, if_true, z10, if_false]
    by_cases hno : dr i = none ∨ dr j = none
    · rw [s_two_none hD hi hj hno, isome_and hno]
      simp only [Option.bind_some, zm2, if_false, z00, if_true, Bool.false_eq_true]
      exact ⟨_, _, rfl, rfl, rfl, hR0⟩
    obtain ⟨⟨a, b⟩, e1⟩ : ∃ x, dr i = some x := by
      cases e : dr i with
      | none => exact absurd (Or.inl e) hno
      | some x => exact ⟨x, rfl⟩
    obtain ⟨⟨c, d⟩, e2⟩ : ∃ x, dr j = some x := by
      cases e : dr j with
      | none => exact absurd (Or.inr e) hno
      | some x => exact ⟨x, rfl⟩
    obtain ⟨hn1, -, -, f1, g1⟩ := hD.num hi e1
    obtain ⟨hn2, -, -, f2, g2⟩ := hD.num hj e2
    rw [s_two hD hi hj e1 e2, isome_and1 e1 e2]
    simp only [Option.bind_some, z00, z10, if_true, if_false]
    by_cases hno2 : dr k = none ∨ dr l = none
    · rw [isome_and hno2]
      simp only [Bool.false_eq_true, if_false, z00, if_true]
      cases e3 : dr k with
      | none =>
        simp only [s_has0 hD hk e3, Option.bind_some, z00, if_true]
        exact ⟨_, _, rfl, rfl, rfl, hR0⟩
      | some x =>
        have e4 : dr l = none := by
          rcases hno2 with h | h
          · rw [h] at e3; exact absurd e3 (by simp)
          · exact h
        simp only [s_has1 hD hk (a := x.1) (b := x.2) e3, s_has0 hD hl e4, Option.bind_some, z00, z10, if_true, if_false]
        exact ⟨_, _, rfl, rfl, rfl, hR0⟩
    obtain ⟨⟨p, q⟩, e3⟩ : ∃ x, dr k = some x := by
      cases e : dr k with
      | none => exact absurd (Or.inl e) hno2
      | some x => exact ⟨x, rfl⟩
    obtain ⟨⟨g, h⟩, e4⟩ : ∃ x, dr l = some x := by
      cases e : dr l with
      | none => exact absurd (Or.inr e) hno2
      | some x => exact ⟨x, rfl⟩
    obtain ⟨hn3, -, -, f3, g3⟩ := hD.num hk e3
    obtain ⟨hn4, -, -, f4, g4⟩ := hD.num hl e4
    rw [isome_and1 e3 e4]
    simp only [s_has1 hD hk e3, s_has1 hD hl e4, s_load hD hk e3, s_load hD hl e4, Option.bind_some, z00, z10, if_true, if_false, s_isNought hn2.b64.1 hn2.b64.2, s_isNought hn4.b64.1 hn4.b64.2, s_isNothing hD hj e2, s_isNothing hD hl e4, dr_cl hi, dr_n0 hi, dr_8 hi, dr_cl hj, dr_n0 hj, dr_8 hj, dr_cl hk, dr_n0 hk, dr_8 hk, dr_cl hl, dr_n0 hl, dr_8 hl, or_self, f1, f2, f3, f4, g1, g2, g3, g4, iI_l hn1.b32.1, iI_l hn1.b32.2, iI_l hn2.b32.1, iI_l hn2.b32.2, iI_l hn4.b32.1, iI_l hn4.b32.2]
    by_cases c2 : c = 0 ∧ d = 0
    · rw [if_pos c2, if_neg j1, if_neg j1]
      exact ⟨_, _, rfl, rfl, rfl, hR0⟩
    rw [if_neg c2, if_pos rfl, if_pos rfl]
    by_cases c4 : g = 0 ∧ h = 0
    · rw [if_pos c4, if_neg j1, if_neg j1]
      exact ⟨_, _, rfl, rfl, rfl, hR0⟩
    rw [if_neg c4, if_pos rfl, if_pos rfl]
    have z2 : (c, d) ≠ (0, 0) := ne00 c2
    have z4 : (g, h) ≠ (0, 0) := ne00 c4
    rcases s_invert hN hn2.eb hn4.eb with ⟨-, k1, k2⟩ | ⟨z, -, -, kz, k1, k2, k3⟩
    · obtain ⟨y, k1⟩ := k1 m_euclid_q_a m_euclid_q_b m_euclid_quotientA m_euclid_quotientB m_out_a m_out_b
      obtain ⟨ra', rb', k2⟩ := k2 m_ra m_rb
      rw [k1, k2, Option.bind_some, Option.bind_some, if_pos rfl, if_pos rfl]
      exact ⟨_, _, rfl, rfl, rfl, hR0⟩
    · obtain ⟨y1, y2, y3, y4, y5, y6, y7, y8, y9, y10, y11, y12, y13, y14, y15, y16, y17, k1⟩ := k1 m_euclid_q_a m_euclid_q_b m_euclid_quotientA m_euclid_quotientB m_out_a m_out_b
      obtain ⟨ra', rb', k2⟩ := k2 m_ra m_rb
      obtain ⟨y', k3⟩ := k3 (lI (em (c, d) (g, h)).1) (lI (em (c, d) (g, h)).2) m_qa m_qb
      have pb : b64 (em (c, d) (g, h)).1 ∧ b64 (em (c, d) (g, h)).2 := by
        obtain ⟨u1, u2, u3, u4⟩ := hn2
        obtain ⟨t1, t2, t3, t4⟩ := hn4
        have m1 := mul_bd (show -9999 ≤ c by omega) u2 (show -9999 ≤ g by omega) t2
        have m2 := mul_bd (show -9999 ≤ d by omega) u4 (show -9999 ≤ h by omega) t4
        have m3 := mul_bd (show -9999 ≤ c by omega) u2 (show -9999 ≤ h by omega) t4
        have m4 := mul_bd (show -9999 ≤ d by omega) u4 (show -9999 ≤ g by omega) t2
        have q1 : (em (c, d) (g, h)).1 = c * g - d * h := rfl
        have q2 : (em (c, d) (g, h)).2 = c * h + d * g - d * h := rfl
        exact ⟨⟨by omega, by omega⟩, ⟨by omega, by omega⟩⟩
      have cp : f_X5_copy (lI c) (lI d) = some (lI c, lI d) := rfl
      rw [k1, k2, Option.bind_some, Option.bind_some, if_neg j1, if_neg j1]
      simp only []
      rw [cp, Option.bind_some]
      simp only []
      rw [s_multiply, Option.bind_some, s_times, Option.bind_some]
      simp only []
      rw [s_fits pb.1 pb.2, Option.bind_some, s_isNear pb.1 pb.2, Option.bind_some]
      by_cases cn : kNb (em (c, d) (g, h)).1 (em (c, d) (g, h)).2 = true
      · have c31 : b32 (p - a) := by
          obtain ⟨u1, u2, u3, u4⟩ := hn1
          obtain ⟨t1, t2, t3, t4⟩ := hn3
          exact ⟨by omega, by omega⟩
        have c32 : b32 (q - b) := by
          obtain ⟨u1, u2, u3, u4⟩ := hn1
          obtain ⟨t1, t2, t3, t4⟩ := hn3
          exact ⟨by omega, by omega⟩
        obtain ⟨H, W, S, H', W', S', kk, r, t1, t2, t3, t4, t5, x1, x2, x3, x4, x5, t6⟩ := s_join hN hn1 hn2 hn3 hn4 z2 z4 (kNb_iff.mp cn) kz m_modulus_step m_modulus_width m_modulus_slant
        obtain ⟨rr, r1, r2⟩ := s_part2 (iI w) (lI r.1) (lI r.2)
        rw [if_pos cn, if_neg j1, if_neg j1, t6, Option.bind_some, t1, Option.bind_some]
        simp only []
        rw [r1, Option.bind_some, k3, Option.bind_some]
        simp only []
        rw [t2, Option.bind_some, iI_sub, iI_sub, iI_l c31, iI_l c32]
        simp only []
        rw [t3, Option.bind_some]
        simp only []
        rw [s_times, Option.bind_some]
        simp only []
        rw [t4, Option.bind_some, lI_add, lI_add]
        simp only []
        rw [t5, Option.bind_some]
        simp only []
        rw [r2, Option.bind_some]
        exact ⟨_, _, rfl, rfl, rfl, hR0⟩
      · rw [if_neg cn, if_pos rfl, if_pos rfl]
        exact ⟨_, _, rfl, rfl, rfl, hR0⟩
  · have cA : ∀ {α : Type} {P R : Option α}, (if w < 0 then P else if w ≤ 1 then R else P) = P := by
      intro α P R
      by_cases c1 : w < 0
      · rw [if_pos c1]
      · rw [if_neg c1, if_neg (by omega)]
    rw [cA]
    simp only [cw, if_false, z00, if_true]
    exact ⟨_, _, rfl, rfl, rfl, hR0⟩
