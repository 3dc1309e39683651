/-! ===== crowd ===== -/
def gpb (r : Int × Int) : Bool := decide (r.1 % 3 = 2 ∧ r.2 % 3 = 0 ∧ -60 ≤ r.1 ∧ r.1 ≤ 60 ∧ -60 ≤ r.2 ∧ r.2 ≤ 60) && ((decide (r.2 = 0 ∧ 0 ≤ r.1 ∧ r.1.toNat % 3 = 2) && pl_prime r.1.toNat) || (decide ((nrm r.1 r.2).toNat % 3 = 1 ∧ (nrm r.1 r.2).toNat ≤ 2000) && pl_prime (nrm r.1 r.2).toNat))
theorem kPL_gpb : kPL.all gpb = true := by decide +kernel
theorem kPL_gp {k : Nat} (hk : k < 303) : gp (kPL.getD k (0, 0)) ∧ eb (kPL.getD k (0, 0)) := by
  have hk' : k < kPL.length := by rw [pl_len]; exact hk
  have h := List.all_eq_true.mp kPL_gpb kPL[k] (List.getElem_mem hk')
  have e : kPL.getD k (0, 0) = kPL[k] := by simp [List.getD, List.getElem?_eq_getElem hk']
  rw [e]
  generalize kPL[k] = r at h ⊢
  unfold gpb at h
  simp only [Bool.and_eq_true, Bool.or_eq_true, decide_eq_true_eq] at h
  obtain ⟨⟨h1, h2, h3, h4, h5, h6⟩, h7⟩ := h
  have n0 := nrm_nn r.1 r.2
  have nl := nrm_le (M := 60) h3 h4 h5 h6
  have hb : eb r := by unfold eb; show nrm r.1 r.2 ≤ 300000000; omega
  refine ⟨⟨⟨h1, h2⟩, ?_⟩, hb⟩
  rcases h7 with ⟨⟨q1, q2, q3⟩, q4⟩ | ⟨⟨q1, q2⟩, q3⟩
  · left
    exact ⟨r.1.toNat, (pl_prime_iff (by omega)).mp q4, q3, e_ext (by simp only []; omega) q1⟩
  · right
    exact ⟨(nrm r.1 r.2).toNat, (pl_prime_iff q2).mp q3, q1, by show nrm r.1 r.2 = _; omega⟩
theorem cr_loop {N : Nat} (hN : 1048576 ≤ N) {a b : Int} (hz : eb (a, b)) {M : Nat} (hM : M ≤ 100) (v3 : Int32) {i : Nat} (hi : i < 8) {first second la lb : Nat → Int32} (hf : (first i).toInt64 = lI a) (hs : (second i).toInt64 = lI b) (hL : isL kPL la lb) {A B : Nat → Int32} (hA : isL kPL A B) (fa fb : Int64) : ∀ (j k : Nat), k + j = M → ∀ c : Nat, ∃ r : Int32, (∀ (f : Nat) (ms mw mt qa qb ta tb ga gb oa ob : Int64), j < f → ∃ ms' mw' mt' qa' qb' ta' tb' ga' gb' oa' ob' : Int64, f_X10_crowd_68 N f (nI M) v3 (nI c) (nI k) ms mw mt qa qb (nI kPL.length) A B fa fb (lI a) (lI b) ta tb ga gb oa ob = some (r, ms', mw', mt', qa', qb', nI kPL.length, A, B, fa, fb, lI a, lI b, ta', tb', ga', gb', oa', ob')) ∧ (∀ (f : Nat) (ra rb bw bh bs : Int64), j < f → ∃ y, f_X11_crowd_51 N f (nI i) (nI M) v3 (nI c) (nI k) ra rb bw bh bs first second la lb = some (r, y)) := by
  intro j
  induction j with
  | zero =>
    intro k hk c
    refine ⟨nI c, ?_, ?_⟩
    · intro f ms mw mt qa qb ta tb ga gb oa ob hfu
      obtain ⟨f, rfl⟩ : ∃ f', f = f' + 1 := ⟨f - 1, by omega⟩
      rw [f_X10_crowd_68, if_pos (nI_le (by omega) (by omega))]
      exact ⟨_, _, _, _, _, _, _, _, _, _, _, rfl⟩
    · intro f ra rb bw bh bs hfu
      obtain ⟨f, rfl⟩ : ∃ f', f = f' + 1 := ⟨f - 1, by omega⟩
      rw [f_X11_crowd_51, if_pos (nI_le (by omega) (by omega))]
      exact ⟨_, rfl⟩
  | succ j ih =>
    intro k hk c
    obtain ⟨g1, g2⟩ := kPL_gp (k := k) (by omega)
    obtain ⟨v, v3', vc, vr⟩ := s_sgn hN (z := (a, b)) hz g1 g2
    have hl := hL k (by rw [pl_len]; omega)
    have sm := kPL_small k (by omega)
    have o := nI_in (show k < 400 by omega) (by decide)
    have o8 := dr_ok hi
    by_cases cv : nI v = v3
    · obtain ⟨r, rC, rR⟩ := ih (k + 1) (by omega) (c + 1)
      refine ⟨r, ?_, ?_⟩
      · intro f ms mw mt qa qb ta tb ga gb oa ob hfu
        obtain ⟨f, rfl⟩ : ∃ f', f = f' + 1 := ⟨f - 1, by omega⟩
        obtain ⟨y, ey⟩ := vc ms mw mt ga gb
        have ey' : f_X10_signByPrime N ms mw mt ga gb (lI a) (lI b) (lI (kPL.getD k (0, 0)).1) (lI (kPL.getD k (0, 0)).2) = some (nI v, y) := ey
        rw [f_X10_crowd_68, if_neg (nI_ge (by omega) (by omega)), s_pload hA (by omega), Option.bind_some]
        simp only []
        rw [ey', Option.bind_some, if_pos cv, nI_1, nI_1]
        exact rC f _ _ _ _ _ _ _ _ _ _ _ (by omega)
      · intro f ra rb bw bh bs hfu
        obtain ⟨f, rfl⟩ : ∃ f', f = f' + 1 := ⟨f - 1, by omega⟩
        obtain ⟨y, ey⟩ := vr bw bh bs
        have ey' : f_X11_signAt N (lI a) (lI b) (lI (kPL.getD k (0, 0)).1) (lI (kPL.getD k (0, 0)).2) bw bh bs = some (nI v, y) := ey
        rw [f_X11_crowd_51, if_neg (nI_ge (by omega) (by omega)), if_neg o8, if_neg o8, if_neg o, if_neg o, nI_clamp (show k < 2 ^ 31 by omega), dr_cl hi, hf, hs, hl.1, hl.2, iI_l ⟨by omega, by omega⟩, iI_l ⟨by omega, by omega⟩, ey', Option.bind_some, if_pos cv, nI_1, nI_1]
        exact rR f _ _ _ _ _ (by omega)
    · obtain ⟨r, rC, rR⟩ := ih (k + 1) (by omega) c
      refine ⟨r, ?_, ?_⟩
      · intro f ms mw mt qa qb ta tb ga gb oa ob hfu
        obtain ⟨f, rfl⟩ : ∃ f', f = f' + 1 := ⟨f - 1, by omega⟩
        obtain ⟨y, ey⟩ := vc ms mw mt ga gb
        have ey' : f_X10_signByPrime N ms mw mt ga gb (lI a) (lI b) (lI (kPL.getD k (0, 0)).1) (lI (kPL.getD k (0, 0)).2) = some (nI v, y) := ey
        rw [f_X10_crowd_68, if_neg (nI_ge (by omega) (by omega)), s_pload hA (by omega), Option.bind_some]
        simp only []
        rw [ey', Option.bind_some, if_neg cv, nI_1]
        exact rC f _ _ _ _ _ _ _ _ _ _ _ (by omega)
      · intro f ra rb bw bh bs hfu
        obtain ⟨f, rfl⟩ : ∃ f', f = f' + 1 := ⟨f - 1, by omega⟩
        obtain ⟨y, ey⟩ := vr bw bh bs
        have ey' : f_X11_signAt N (lI a) (lI b) (lI (kPL.getD k (0, 0)).1) (lI (kPL.getD k (0, 0)).2) bw bh bs = some (nI v, y) := ey
        rw [f_X11_crowd_51, if_neg (nI_ge (by omega) (by omega)), if_neg o8, if_neg o8, if_neg o, if_neg o, nI_clamp (show k < 2 ^ 31 by omega), dr_cl hi, hf, hs, hl.1, hl.2, iI_l ⟨by omega, by omega⟩, iI_l ⟨by omega, by omega⟩, ey', Option.bind_some, if_neg cv, nI_1, Int32.add_zero]
        exact rR f _ _ _ _ _ (by omega)
theorem q_crowd (N : Nat) (hN : 1048576 ≤ N) (v1 v2 v3 : Int32) (m_drawers_full m_drawers_kept : Int32) (m_drawers_partA m_drawers_partB m_drawers_keptA m_drawers_keptB m_drawers_keptFull : Nat → Int32) (m_tape_size : Int32) (m_tape_bytes : Nat → Int32) (m_modulus_step m_modulus_width m_modulus_slant m_modulus_square_a m_modulus_square_b : Int64) (m_primes_count : Int32) (m_primes_primeA m_primes_primeB : Nat → Int32) (m_primes_found_a m_primes_found_b m_one_a m_one_b m_two_a m_two_b m_four_a m_four_b m_out_a m_out_b : Int64) (m_taped m_states : Int32) (m_ra m_rb m_boxWide m_boxHigh m_boxStep : Int64) (m_listed : Int32) (m_tape m_has m_keptHas m_first m_second m_keptFirst m_keptSecond m_la0 m_lb0 : Nat → Int32) (hR : kR m_drawers_full m_drawers_kept m_drawers_partA m_drawers_partB m_drawers_keptA m_drawers_keptB m_drawers_keptFull m_tape_size m_tape_bytes m_primes_count m_primes_primeA m_primes_primeB m_taped m_tape m_has m_keptHas m_first m_second m_keptFirst m_keptSecond m_states m_la0 m_lb0 m_listed) : ∃ (y : Int32 × Int64 × Int64 × Int64 × Int64 × Int64 × Int32 × (Nat → Int32) × (Nat → Int32) × Int64 × Int64 × Int64 × Int64 × Int64 × Int64 × Int64 × Int64 × Int64 × Int64) (z : Int32 × Int64 × Int64 × Int64 × Int64 × Int64), f_X10_crowd N v1 v2 v3 m_drawers_full m_drawers_partA m_drawers_partB m_modulus_step m_modulus_width m_modulus_slant m_modulus_square_a m_modulus_square_b m_primes_count m_primes_primeA m_primes_primeB m_primes_found_a m_primes_found_b m_one_a m_one_b m_two_a m_two_b m_four_a m_four_b m_out_a m_out_b = some y ∧ f_X11_crowd N v1 v2 v3 m_ra m_rb m_boxWide m_boxHigh m_boxStep m_has m_first m_second m_la0 m_lb0 = some z ∧ y.1 = z.1 ∧ kR m_drawers_full m_drawers_kept m_drawers_partA m_drawers_partB m_drawers_keptA m_drawers_keptB m_drawers_keptFull m_tape_size m_tape_bytes y.2.2.2.2.2.2.1 y.2.2.2.2.2.2.2.1 y.2.2.2.2.2.2.2.2.1 m_taped m_tape m_has m_keptHas m_first m_second m_keptFirst m_keptSecond m_states m_la0 m_lb0 m_listed := by
  have hR0 := hR
  obtain ⟨⟨dr, hD⟩, hK, hT, hP⟩ := hR
  unfold f_X10_crowd f_X11_crowd
  rcases dr_cases v1 with h1 | ⟨i, hi, rfl⟩
  · rw [(dr_out h1).1, (dr_out h1).2, Option.bind_some, if_pos rfl, Option.bind_some, if_pos rfl]
    exact ⟨_, _, rfl, rfl, rfl, hR0⟩
  obtain ⟨m, hm, rfl⟩ := iI_of v2
  obtain ⟨w, hw, rfl⟩ := iI_of v3
  have hlt : (iI w < 0) = (w < 0) := propext (iI_lt0 hw)
  have hle : (iI w ≤ 3) = (w ≤ 3) := propext (iI_le hw (b := 3) ⟨by decide, by decide⟩)
  have hin : f_X11_in (iI w).toInt64 0 3 = some (if 0 ≤ w ∧ w ≤ 3 then 1 else 0) := s_in32 hw (l := 0) (h := 3) ⟨by decide, by decide⟩ ⟨by decide, by decide⟩
  have mlt : (iI m < 1) = (m < 1) := propext (iI_lt hm (b := 1) ⟨by decide, by decide⟩)
  have mle : ((100 : Int32) < iI m) = (100 < m) := propext (iI_lt (a := 100) ⟨by decide, by decide⟩ hm)
  have min' : f_X11_in (iI m).toInt64 1 100 = some (if 1 ≤ m ∧ m ≤ 100 then 1 else 0) := s_in32 hm (l := 1) (h := 100) ⟨by decide, by decide⟩ ⟨by decide, by decide⟩
  rw [(dr_in hi).1, (dr_in hi).2, Option.bind_some, if_neg j1, Option.bind_some, if_neg j1, hin, min', Option.bind_some, Option.bind_some]
  simp only [hlt, hle, mlt, mle]
  by_cases cm : 1 ≤ m ∧ m ≤ 100
  · rw [if_neg (show ¬ m < 1 by omega), if_neg (show ¬ 100 < m by omega), if_pos cm, if_neg j1]
    by_cases cw : 0 ≤ w ∧ w ≤ 3
    · rw [if_neg (show ¬ w < 0 by omega), if_pos cw.2, if_pos cw, if_neg j1]
      cases e1 : dr i with
      | none =>
        rw [s_has0 hD hi e1, Option.bind_some, if_pos rfl]
        simp only [hD.hasN hi e1, dr_cl hi, dr_n0 hi, dr_8 hi, or_self, if_false, if_true]
        exact ⟨_, _, rfl, rfl, rfl, hR0⟩
      | some p =>
        obtain ⟨a, b⟩ := p
        obtain ⟨hn, -, -, f1, g1⟩ := hD.num hi e1
        obtain ⟨M, rfl⟩ := Int.eq_ofNat_of_zero_le (show 0 ≤ m by omega)
        obtain ⟨ra', rb', A', B', e2, hA, hL, hl, hP'⟩ := s_find hN hP m_primes_found_a m_primes_found_b
        subst hl
        rw [s_has1 hD hi e1, Option.bind_some, if_neg j1, s_load hD hi e1, Option.bind_some, e2, Option.bind_some]
        simp only [hD.has1 hi e1, dr_cl hi, dr_n0 hi, dr_8 hi, or_self, if_false, z10]
        obtain ⟨r, rC, rR⟩ := cr_loop hN (a := a) (b := b) hn.eb (M := M) (by omega) (iI w) hi (first := m_first) (second := m_second) (la := m_la0) (lb := m_lb0) (by rw [f1, iI_l hn.b32.1]) (by rw [g1, iI_l hn.b32.2]) hL hA ra' rb' M 0 (by omega) 0
        obtain ⟨x1, x2, x3, x4, x5, x6, x7, x8, x9, x10, x11, eC⟩ := rC N m_modulus_step m_modulus_width m_modulus_slant m_modulus_square_a m_modulus_square_b m_two_a m_two_b m_four_a m_four_b m_out_a m_out_b (by omega)
        obtain ⟨y, eR⟩ := rR N m_ra m_rb m_boxWide m_boxHigh m_boxStep (by omega)
        have hM' : nI M = iI (M : Int) := (iI_nI M)
        have h0' : nI 0 = 0 := by decide
        rw [hM', h0'] at eC eR
        rw [eC, eR]
        exact ⟨_, _, rfl, rfl, rfl, ⟨dr, hD⟩, hK, hT, hP'⟩
    · have cA : ∀ {α : Type} {P R : Option α}, (if w < 0 then P else if w ≤ 3 then R else P) = P := by
        intro α P R
        by_cases c1 : w < 0
        · rw [if_pos c1]
        · rw [if_neg c1, if_neg (by omega)]
      rw [cA, if_neg cw, if_pos rfl]
      exact ⟨_, _, rfl, rfl, rfl, hR0⟩
  · have cA : ∀ {α : Type} {P R : Option α}, (if m < 1 then P else if 100 < m then P else R) = P := by
      intro α P R
      by_cases c1 : m < 1
      · rw [if_pos c1]
      · rw [if_neg c1, if_pos (by omega)]
    rw [cA, if_neg cm, if_pos rfl]
    exact ⟨_, _, rfl, rfl, rfl, hR0⟩
