/-! ===== primary ones, threes taken out, own ones ===== -/
theorem eb_u {x : Int × Int} (h : eb x) : eb (em x (1, 1)) := by unfold eb at h ⊢; rw [en_u]; exact h
theorem eb_sum {x : Int × Int} (h : eb x) : b64 (x.1 + x.2) := by
  obtain ⟨⟨h1, h2⟩, ⟨h3, h4⟩⟩ := eb_bd (a := x.1) (b := x.2) h
  exact ⟨by omega, by omega⟩
theorem mp_loop {N : Nat} (hN : 1048576 ≤ N) : ∀ (i : Nat) (x : Int × Int), eb x → (x.1 + x.2) % 3 ≠ 0 → prim (eit i x) → (∀ j, j < i → ¬ prim (eit j x)) → ∀ c k : Nat, c + i < 6 → i < k → f_X5_makePrimary_2 N k (nI c) (lI x.1) (lI x.2) = some (lI (eit i x).1, lI (eit i x).2) := by
  intro i
  induction i with
  | zero =>
    intro x hb h3 hp hj c k hc hk
    obtain ⟨k, rfl⟩ : ∃ k', k = k' + 1 := ⟨k - 1, by omega⟩
    have b := eb_64 (a := x.1) (b := x.2) hb
    have hp' : x.1 % 3 = 2 ∧ x.2 % 3 = 0 := hp
    rw [f_X5_makePrimary_2, if_neg (show ¬ (6 : Int32) ≤ nI c from nI_ge (b := 6) (by omega) (by decide)), s_isPrimary b.1 b.2, Option.bind_some, if_pos hp', if_neg (by decide)]; rfl
  | succ i ih =>
    intro x hb h3 hp hj c k hc hk
    obtain ⟨k, rfl⟩ : ∃ k', k = k' + 1 := ⟨k - 1, by omega⟩
    have b := eb_64 (a := x.1) (b := x.2) hb
    have hp' : ¬ (x.1 % 3 = 2 ∧ x.2 % 3 = 0) := hj 0 (by omega)
    have e1 : f_X5_multiplyByUnit N 1 (lI x.1) (lI x.2) = some (lI (em x (1, 1)).1, lI (em x (1, 1)).2) := s_mbu hN x.1 x.2 (u := 1) (by decide)
    have h3' : ((em x (1, 1)).1 + (em x (1, 1)).2) % 3 ≠ 0 := by
      have := em_u x.1 x.2
      have e : em x (1, 1) = (x.1 - x.2, x.1) := this
      rw [e]; simp only; omega
    rw [f_X5_makePrimary_2, if_neg (show ¬ (6 : Int32) ≤ nI c from nI_ge (b := 6) (by omega) (by decide)), s_isPrimary b.1 b.2, Option.bind_some, if_neg hp', if_pos rfl, s_isOfThree (eb_sum hb), Option.bind_some, if_neg h3, if_pos rfl, e1, Option.bind_some, nI_1]
    exact ih (em x (1, 1)) (eb_u hb) h3' hp (fun j hj' => hj (j + 1) (by omega)) (c + 1) k (by omega) (by omega)
theorem mp_loopX {N : Nat} : ∀ (i : Nat) (x : Int × Int), eb x → prim (eit i x) → (∀ j, j < i → ¬ prim (eit j x)) → ∀ (k : Nat) (t : Int32), i < k → f_X11_takesThrees_72 N k (lI x.1) (lI x.2) t = some (lI (eit i x).1, lI (eit i x).2, t) := by
  intro i
  induction i with
  | zero =>
    intro x hb hp hj k t hk
    obtain ⟨k, rfl⟩ : ∃ k', k = k' + 1 := ⟨k - 1, by omega⟩
    have b := eb_64 (a := x.1) (b := x.2) hb
    have hp' : x.1 % 3 = 2 ∧ x.2 % 3 = 0 := hp
    rw [f_X11_takesThrees_72, s_isPrimaryX b.1 b.2, Option.bind_some, if_pos hp', if_neg (by decide)]; rfl
  | succ i ih =>
    intro x hb hp hj k t hk
    obtain ⟨k, rfl⟩ : ∃ k', k = k' + 1 := ⟨k - 1, by omega⟩
    have b := eb_64 (a := x.1) (b := x.2) hb
    have hp' : ¬ (x.1 % 3 = 2 ∧ x.2 % 3 = 0) := hj 0 (by omega)
    rw [f_X11_takesThrees_72, s_isPrimaryX b.1 b.2, Option.bind_some, if_neg hp', if_pos rfl, l1, s_times, Option.bind_some]
    exact ih (em x (1, 1)) (eb_u hb) hp (fun j hj' => hj (j + 1) (by omega)) k t (by omega)
/-- 1 - w so often -/
def e3 : Nat → Int × Int
  | 0 => (1, 0)
  | t + 1 => em (e3 t) (1, -1)
theorem t3_eq {a b : Int} (h : (a + b) % 3 = 0) : em ((2 * a - b) / 3, (a + b) / 3) (1, -1) = (a, b) := by
  apply e_ext <;> simp only [em] <;> omega
theorem t3_tdiv {a b : Int} (h : (a + b) % 3 = 0) : (2 * a - b).tdiv 3 = (2 * a - b) / 3 ∧ (a + b).tdiv 3 = (a + b) / 3 := by
  have h1 : (2 * a - b) % 3 = 0 := by omega
  constructor
  · exact ((td_em (show (0 : Int) < 3 by decide)).1 (Or.inl (by rw [← Int.dvd_iff_tmod_eq_zero, Int.dvd_iff_emod_eq_zero]; exact h1))).2.symm
  · exact ((td_em (show (0 : Int) < 3 by decide)).1 (Or.inl (by rw [← Int.dvd_iff_tmod_eq_zero, Int.dvd_iff_emod_eq_zero]; exact h))).2.symm
theorem thr {N : Nat} (hN : 1048576 ≤ N) : ∀ (j : Nat) (x : Int × Int), x ≠ (0, 0) → eb x → en x < 3 ^ j → ∃ (t : Nat) (y : Int × Int), t < j ∧ x = em y (e3 t) ∧ (y.1 + y.2) % 3 ≠ 0 ∧ eb y ∧ (∀ c k : Nat, c + j ≤ 60 → j < k → f_X5_takeOutThrees_2 N k (nI c) (lI x.1) (lI x.2) = some (nI (c + t), lI y.1, lI y.2)) ∧ (∀ c k : Nat, j < k → f_X11_takesThrees_11 N k (lI x.1) (lI x.2) (nI c) = f_X11_takesThrees_72 N N (lI y.1) (lI y.2) (nI (c + t))) := by
  intro j
  induction j with
  | zero =>
    intro x h0 hb hlt
    have := en_pos h0
    omega
  | succ j ih =>
    intro x h0 hb hlt
    have b := eb_64 (a := x.1) (b := x.2) hb
    obtain ⟨⟨w1, w2⟩, ⟨w3, w4⟩⟩ := eb_bd (a := x.1) (b := x.2) hb
    by_cases c3 : (x.1 + x.2) % 3 = 0
    · have et := t3_eq c3
      have en3 : en x = 3 * en ((2 * x.1 - x.2) / 3, (x.1 + x.2) / 3) := by
        have h1 : en x = en (em ((2 * x.1 - x.2) / 3, (x.1 + x.2) / 3) (1, -1)) := by rw [et]
        rw [h1, en_em]
        have : en (1, -1) = 3 := rfl
        rw [this]; omega
      have hne : ((2 * x.1 - x.2) / 3, (x.1 + x.2) / 3) ≠ (0, 0) := by
        intro z; rw [z] at et
        apply h0
        rw [em_zero'] at et
        have : x = (x.1, x.2) := rfl
        rw [this]; exact et.symm
      have hpow : (3 : Int) ^ (j + 1) = 3 * 3 ^ j := by rw [Int.pow_succ]; omega
      have hnn := en_nn ((2 * x.1 - x.2) / 3, (x.1 + x.2) / 3)
      have hb2 : eb ((2 * x.1 - x.2) / 3, (x.1 + x.2) / 3) := by unfold eb at hb ⊢; omega
      obtain ⟨t, y, ht, hx, hy, hbY, hc, hr⟩ := ih _ hne hb2 (by omega)
      have e2 : lI 2 * lI x.1 - lI x.2 = lI (2 * x.1 - x.2) := by rw [lI_mul, lI_sub]
      have d1 : lI (2 * x.1 - x.2) / lI 3 = lI ((2 * x.1 - x.2) / 3) := by
        rw [lI_div ⟨by omega, by omega⟩ ⟨by decide, by decide⟩, (t3_tdiv c3).1]
      have d2 : lI (x.1 + x.2) / lI 3 = lI ((x.1 + x.2) / 3) := by
        rw [lI_div ⟨by omega, by omega⟩ ⟨by decide, by decide⟩, (t3_tdiv c3).2]
      refine ⟨t + 1, y, by omega, ?_, hy, hbY, ?_, ?_⟩
      · rw [e3, ← em_assoc, ← hx]
        exact et.symm
      · intro c k hcj hk
        obtain ⟨k, rfl⟩ : ∃ k', k = k' + 1 := ⟨k - 1, by omega⟩
        have n0 : ¬ (x.1 = 0 ∧ x.2 = 0) := fun z => h0 (e_ext z.1 z.2)
        rw [f_X5_takeOutThrees_2, if_neg (show ¬ (60 : Int32) ≤ nI c from nI_ge (b := 60) (by omega) (by decide)), s_isOfThree (eb_sum hb), Option.bind_some, if_pos c3, if_neg (by decide), s_isNought b.1 b.2, Option.bind_some, if_neg n0, if_pos rfl, f_X5_set, Option.bind_some, nI_1, l2, l3, e2, d1, lI_add, d2]
        have := hc (c + 1) k (by omega) (by omega)
        rw [this]
        have e : c + 1 + t = c + (t + 1) := by omega
        rw [e]
      · intro c k hk
        obtain ⟨k, rfl⟩ : ∃ k', k = k' + 1 := ⟨k - 1, by omega⟩
        rw [f_X11_takesThrees_11, s_isThree (eb_sum hb), Option.bind_some, if_pos c3, if_neg (by decide), f_X11_sets, Option.bind_some, nI_1, l2, l3, e2, d1, lI_add, d2]
        have := hr (c + 1) k (by omega)
        rw [this]
        have e : c + 1 + t = c + (t + 1) := by omega
        rw [e]
    · refine ⟨0, x, by omega, ?_, c3, hb, ?_, ?_⟩
      · rw [e3, em_one']
      · intro c k hcj hk
        obtain ⟨k, rfl⟩ : ∃ k', k = k' + 1 := ⟨k - 1, by omega⟩
        rw [f_X5_takeOutThrees_2, if_neg (show ¬ (60 : Int32) ≤ nI c from nI_ge (b := 60) (by omega) (by decide)), s_isOfThree (eb_sum hb), Option.bind_some, if_neg c3, if_pos rfl]
        rfl
      · intro c k hk
        obtain ⟨k, rfl⟩ : ∃ k', k = k' + 1 := ⟨k - 1, by omega⟩
        rw [f_X11_takesThrees_11, s_isThree (eb_sum hb), Option.bind_some, if_neg c3, if_pos rfl]
        rfl
/-- threes taken out, on both sides; the first index of a primary multiple -/
theorem s_threes {N : Nat} (hN : 1048576 ≤ N) {x : Int × Int} (h0 : x ≠ (0, 0)) (hb : eb x) : ∃ (t : Nat) (y : Int × Int) (i : Nat), t < 20 ∧ i < 6 ∧ x = em y (e3 t) ∧ (y.1 + y.2) % 3 ≠ 0 ∧ eb y ∧ prim (eit i y) ∧ f_X5_takeOutThrees N (lI x.1) (lI x.2) = some (nI t, lI y.1, lI y.2) ∧ f_X5_makePrimary N (lI y.1) (lI y.2) = some (lI (eit i y).1, lI (eit i y).2) ∧ f_X11_takesThrees N (lI x.1) (lI x.2) = some (lI (eit i y).1, lI (eit i y).2, nI t) := by
  have hlt : en x < 3 ^ 20 := by unfold eb at hb; have : (3 : Int) ^ 20 = 3486784401 := by decide
                                 omega
  obtain ⟨t, y, ht, hx, hy, hbY, hc, hr⟩ := thr hN 20 x h0 hb hlt
  obtain ⟨i, hi, hp, hj⟩ := prim_ex hy
  refine ⟨t, y, i, ht, hi, hx, hy, hbY, hp, ?_, ?_, ?_⟩
  · have := hc 0 N (by omega) (by omega)
    rw [Nat.zero_add] at this
    exact this
  · exact mp_loop hN i y hbY hy hp hj 0 N (by omega) (by omega)
  · unfold f_X11_takesThrees f_X11_sets
    rw [Option.bind_some]
    have := hr 0 N (by omega)
    rw [Nat.zero_add] at this
    rw [show (0 : Int32) = nI 0 from rfl, this]
    exact mp_loopX i y hbY hp hj N (nI t) (by omega)
/-- times 1 - w so often, from the left on -/
def e3m : Nat → Int × Int → Int × Int
  | 0, x => x
  | t + 1, x => e3m t (em x (1, -1))
theorem e3m_eq : ∀ (t : Nat) (x : Int × Int), e3m t x = em x (e3 t)
  | 0, x => by rw [e3m, e3, em_one']
  | t + 1, x => by rw [e3m, e3m_eq t, e3, em_assoc, em_comm (1, -1) (e3 t)]
theorem s_mo1 (N k : Nat) (x : Int × Int) : ∀ (m i u : Nat), i + m = u → u < 2147483648 → m < k → f_X5_makeOwn_11 N k (nI u) (nI i) (lI x.1) (lI x.2) = some (lI (e3m m x).1, lI (e3m m x).2) := by
  induction k generalizing x with
  | zero => intro m i u h1 h2 h3; omega
  | succ k ih =>
    intro m i u h1 h2 h3
    rw [f_X5_makeOwn_11]
    cases m with
    | zero =>
      obtain rfl : i = u := by omega
      rw [if_pos (nI_le (Nat.le_refl _) (by omega))]; rfl
    | succ m =>
      have e : (x.1 + x.2, 2 * x.2 - x.1) = em x (1, -1) := by apply e_ext <;> simp only [em] <;> omega
      rw [if_neg (nI_ge (by omega) (by omega)), f_X5_set, Option.bind_some, nI_1, l2, lI_add, lI_mul, lI_sub]
      have := ih (x.1 + x.2, 2 * x.2 - x.1) m (i + 1) u (by omega) h2 (by omega)
      rw [this, e3m, e]
theorem s_ow1 (N k : Nat) (x : Int × Int) : ∀ (m i u : Nat), i + m = u → u < 2147483648 → m < k → f_X11_owns_28 N k (nI i) (lI x.1) (lI x.2) (nI u) = some (lI (e3m m x).1, lI (e3m m x).2, nI u) := by
  induction k generalizing x with
  | zero => intro m i u h1 h2 h3; omega
  | succ k ih =>
    intro m i u h1 h2 h3
    rw [f_X11_owns_28]
    cases m with
    | zero =>
      obtain rfl : i = u := by omega
      rw [if_pos (nI_le (Nat.le_refl _) (by omega))]; rfl
    | succ m =>
      rw [if_neg (nI_ge (by omega) (by omega)), lm1, l1, s_times, Option.bind_some, nI_1]
      have := ih (em x (1, -1)) m (i + 1) u (by omega) h2 (by omega)
      rw [this, e3m]
/-- the own one of a number, on both sides -/
theorem s_own {N : Nat} (hN : 1048576 ≤ N) {x : Int × Int} (hb : eb x) (th : Int32) : ∃ (z : Int × Int) (th' : Int32), en z = en x ∧ f_X5_makeOwn N (lI x.1) (lI x.2) = some (lI z.1, lI z.2) ∧ f_X11_owns N (lI x.1) (lI x.2) th = some (lI z.1, lI z.2, th') := by
  have b := eb_64 (a := x.1) (b := x.2) hb
  by_cases h0 : x = (0, 0)
  · subst h0
    refine ⟨(0, 0), th, rfl, ?_, ?_⟩
    · obtain ⟨M, rfl⟩ : ∃ M, N = M + 1 := ⟨N - 1, by omega⟩
      unfold f_X5_makeOwn f_X5_takeOutThrees f_X5_makePrimary
      rw [f_X5_takeOutThrees_2]
      have e1 : f_X5_isOfThree (lI 0) (lI 0) = some 1 := by decide
      have e2 : f_X5_isNought (lI 0) (lI 0) = some 1 := by decide
      have e3 : f_X5_isPrimary (lI 0) (lI 0) = some 0 := by decide
      simp only [e1, e2, Option.bind_some, z10, if_false]
      rw [if_neg (by decide), Option.bind_some, f_X5_makePrimary_2]
      simp only [e1, e3, Option.bind_some, z10, z00, if_true, if_false]
      rw [if_neg (by decide), Option.bind_some, f_X5_makeOwn_11, if_pos (by decide)]
    · unfold f_X11_owns f_X11_sets
      rw [if_pos (show lI (0, 0).1 = 0 from rfl), if_pos (show lI (0, 0).2 = 0 from rfl), Option.bind_some]; rfl
  · obtain ⟨t, y, i, ht, hi, hx, hy, hbY, hp, q1, q2, q3⟩ := s_threes hN h0 hb
    refine ⟨e3m t (eit i y), nI t, ?_, ?_, ?_⟩
    · rw [e3m_eq, en_em, en_eit, ← en_em, ← hx]
    · unfold f_X5_makeOwn
      rw [q1, Option.bind_some, q2, Option.bind_some]
      exact s_mo1 N N (eit i y) t 0 t (by omega) (by omega) (by omega)
    · have q4 : f_X11_owns_19 N (lI x.1) (lI x.2) = some (lI (e3m t (eit i y)).1, lI (e3m t (eit i y)).2, nI t) := by
        unfold f_X11_owns_19
        rw [q3, Option.bind_some]
        exact s_ow1 N N (eit i y) t 0 t (by omega) (by omega) (by omega)
      unfold f_X11_owns
      rw [q4]
      by_cases c1 : lI x.1 = 0
      · rw [if_pos c1]
        by_cases c2 : lI x.2 = 0
        · exfalso; exact h0 (e_ext ((lI_0 b.1).mp c1) ((lI_0 b.2).mp c2))
        · rw [if_neg c2]
      · rw [if_neg c1]
/-! ===== change ===== -/
/-- what was reckoned comes into a drawer, on both sides -/
theorem s_store {full : Int32} {pA pB has fst snd : Nat → Int32} {dr : Nat → Option (Int × Int)} (hD : kRow full pA pB has fst snd 0 dr) {j : Nat} (hj : j < 8) {z : Int × Int} (ha : b64 z.1) (hb : b64 z.2) : ∃ (r full' : Int32) (pA' pB' has' fst' snd' : Nat → Int32) (dr' : Nat → Option (Int × Int)), f_X10_storeOut (nI j) full pA pB (lI z.1) (lI z.2) = some (r, full', pA', pB') ∧ f_X11_takes (nI j) (lI z.1) (lI z.2) has fst snd = some (r, has', fst', snd') ∧ kRow full' pA' pB' has' fst' snd' 0 dr' := by
  unfold f_X10_storeOut f_X11_takes
  simp only [s_fits ha hb, s_isNear ha hb, Option.bind_some, s_fill hj, s_puts hj, lI_i, s_norm, s_normOf]
  by_cases hn : kNb z.1 z.2 = true
  · simp only [hn, if_true, z10, if_false]
    exact ⟨_, _, _, _, _, _, _, _, rfl, rfl, kRow_fill hD hj (kNb_iff.mp hn)⟩
  · simp only [hn, if_false, z00, if_true]
    exact ⟨_, _, _, _, _, _, _, _, rfl, rfl, hD⟩
theorem en_64 {z x : Int × Int} (h : en z = en x) (hx : eb x) : b64 z.1 ∧ b64 z.2 := by
  have : eb (z.1, z.2) := by unfold eb at hx ⊢; show en z ≤ _; omega
  exact eb_64 this
theorem q_change (N : Nat) (hN : 1048576 ≤ N) (v1 v2 : Int32) (m_drawers_full m_drawers_kept : Int32) (m_drawers_partA m_drawers_partB m_drawers_keptA m_drawers_keptB m_drawers_keptFull : Nat → Int32) (m_tape_size : Int32) (m_tape_bytes : Nat → Int32) (m_primes_count : Int32) (m_primes_primeA m_primes_primeB : Nat → Int32) (m_out_a m_out_b : Int64) (m_taped m_states : Int32) (m_ra m_rb : Int64) (m_threes m_listed : Int32) (m_tape m_has m_keptHas m_first m_second m_keptFirst m_keptSecond m_la0 m_lb0 : Nat → Int32) (hR : kR m_drawers_full m_drawers_kept m_drawers_partA m_drawers_partB m_drawers_keptA m_drawers_keptB m_drawers_keptFull m_tape_size m_tape_bytes m_primes_count m_primes_primeA m_primes_primeB m_taped m_tape m_has m_keptHas m_first m_second m_keptFirst m_keptSecond m_states m_la0 m_lb0 m_listed) : ∃ (y : Int32 × Int32 × (Nat → Int32) × (Nat → Int32) × Int64 × Int64) (z : Int32 × Int64 × Int64 × Int32 × (Nat → Int32) × (Nat → Int32) × (Nat → Int32)), f_X10_change N v1 v2 m_drawers_full m_drawers_partA m_drawers_partB m_out_a m_out_b = some y ∧ f_X11_change N v1 v2 m_ra m_rb m_threes m_has m_first m_second = some z ∧ y.1 = z.1 ∧ kR y.2.1 m_drawers_kept y.2.2.1 y.2.2.2.1 m_drawers_keptA m_drawers_keptB m_drawers_keptFull m_tape_size m_tape_bytes m_primes_count m_primes_primeA m_primes_primeB m_taped m_tape z.2.2.2.2.1 m_keptHas z.2.2.2.2.2.1 z.2.2.2.2.2.2 m_keptFirst m_keptSecond m_states m_la0 m_lb0 m_listed := by
  have hR0 := hR
  obtain ⟨⟨dr, hD⟩, hK, hT, hP⟩ := hR
  obtain ⟨w, hw, rfl⟩ := iI_of v2
  have hin : f_X11_in (iI w).toInt64 0 7 = some (if 0 ≤ w ∧ w ≤ 7 then 1 else 0) := s_in32 hw (l := 0) (h := 7) ⟨by decide, by decide⟩ ⟨by decide, by decide⟩
  have hle : iI w ≤ 7 ↔ w ≤ 7 := iI_le hw (b := 7) ⟨by decide, by decide⟩
  have hq1 : iI w = 1 ↔ w = 1 := iI_eq hw (b := 1) ⟨by decide, by decide⟩
  rcases dr_cases v1 with h | ⟨i, hi, rfl⟩
  · simp only [f_X10_change, f_X11_change, Option.bind_some, (dr_out h).1, (dr_out h).2, z00, if_true]
    exact ⟨_, _, rfl, rfl, rfl, hR0⟩
  · simp only [f_X10_change, f_X11_change, Option.bind_some, (dr_in hi).1, (dr_in hi).2, z10, if_false, hin, hle, hq1, iI_lt0 hw, iI_0 hw]
    by_cases c : 0 ≤ w ∧ w ≤ 7
    · rw [if_neg (show ¬ w < 0 by omega), if_pos c.2]
      simp only [c, and_self, if_true, z10, if_false, dr_cl hi, dr_n0 hi, dr_8 hi, or_self]
      cases ei : dr i with
      | none =>
        simp only [s_has0 hD hi ei, hD.hasN hi ei, Option.bind_some, z00, if_true]
        exact ⟨_, _, rfl, rfl, rfl, hR0⟩
      | some p =>
        obtain ⟨a, b⟩ := p
        obtain ⟨hn, -, -, f1, g1⟩ := hD.num hi ei
        simp only [s_has1 hD hi ei, hD.has1 hi ei, s_load hD hi ei, Option.bind_some, z10, if_false, f1, g1, iI_l hn.b32.1, iI_l hn.b32.2]
        by_cases c0 : w = 0
        · simp only [c0, if_true, f_X5_turn, f_X5_set, f_X11_sets, Option.bind_some, lI_sub, lI_neg, iI_sub, iI_neg]
          obtain ⟨n1, n2, n3, n4⟩ := hn
          rw [iI_l ⟨by omega, by omega⟩, iI_l ⟨by omega, by omega⟩]
          obtain ⟨r, fu, p1, p2, h', p3, p4, dr', e1, e2, hk⟩ := s_store hD hi (z := (a - b, -b)) ⟨by simp only; omega, by simp only; omega⟩ ⟨by simp only; omega, by simp only; omega⟩
          simp only [e1, e2, Option.bind_some]
          exact ⟨_, _, rfl, rfl, rfl, ⟨_, hk⟩, hK, hT, hP⟩
        · by_cases c1 : w = 1
          · obtain ⟨z, th', q0, q1, q2⟩ := s_own hN (x := (a, b)) hn.eb m_threes
            have hz := en_64 q0 hn.eb
            obtain ⟨r, fu, p1, p2, h', p3, p4, dr', e1, e2, hk⟩ := s_store hD hi hz.1 hz.2
            simp only [c0, c1, if_true, if_false, q1, q2, Option.bind_some, e1, e2, show ((1 : Int) = 0) = False from eq_false (by decide)]
            exact ⟨_, _, rfl, rfl, rfl, ⟨_, hk⟩, hK, hT, hP⟩
          · obtain ⟨u, rfl⟩ : ∃ u : Nat, w = (u : Int) + 2 := ⟨(w - 2).toNat, by omega⟩
            have eu : iI ((u : Int) + 2) - 2 = nI u := by rw [i2, iI_sub, iI_nI]; congr 1; omega
            have hz := en_64 (en_eit u (a, b)) hn.eb
            obtain ⟨r, fu, p1, p2, h', p3, p4, dr', e1, e2, hk⟩ := s_store hD hi hz.1 hz.2
            simp only [c0, c1, if_false, eu, s_mbu hN a b (show u ≤ 6 by omega), s_ut a b (show u < N by omega) (show u < 2147483648 by omega), Option.bind_some, e1, e2]
            exact ⟨_, _, rfl, rfl, rfl, ⟨_, hk⟩, hK, hT, hP⟩
    · simp only [c, if_false, z00, if_true]
      by_cases c2 : w < 0
      · rw [if_pos c2]; exact ⟨_, _, rfl, rfl, rfl, hR0⟩
      · rw [if_neg c2, if_neg (by omega)]; exact ⟨_, _, rfl, rfl, rfl, hR0⟩
