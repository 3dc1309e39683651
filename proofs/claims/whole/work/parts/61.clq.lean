/-! ===== classes, both sides ===== -/
section CLQ
variable {m : Int × Int} {H W : Nat} {S : Int}
theorem s_cop {N : Nat} (hN : 1048576 ≤ N) {x : Int × Int} (hx : eb x) (hm : eb m) : (cop x m → (∀ (qa qb : Int64) (QA QB : Nat → Int64), ∃ y, f_X1_arePrimeToEachOther N qa qb QA QB (lI x.1) (lI x.2) (lI m.1) (lI m.2) = some (1, y)) ∧ ∀ ra rb : Int64, ∃ y, f_X11_arePrimeTo N (lI x.1) (lI x.2) (lI m.1) (lI m.2) ra rb = some (1, y)) ∧ (¬ cop x m → (∀ (qa qb : Int64) (QA QB : Nat → Int64), ∃ y, f_X1_arePrimeToEachOther N qa qb QA QB (lI x.1) (lI x.2) (lI m.1) (lI m.2) = some (0, y)) ∧ ∀ ra rb : Int64, ∃ y, f_X11_arePrimeTo N (lI x.1) (lI x.2) (lI m.1) (lI m.2) ra rb = some (0, y)) := by
  obtain ⟨v, n, hv, -, hz, -, h1, kC, kR, -⟩ := s_primeTo hN (a := x.1) (b := x.2) (c := m.1) (d := m.2) hx hm
  have iff : v = 1 ↔ cop x m := h1.trans (cop_iff hz)
  have C : ∀ (qa qb : Int64) (QA QB : Nat → Int64), ∃ y, f_X1_arePrimeToEachOther N qa qb QA QB (lI x.1) (lI x.2) (lI m.1) (lI m.2) = some (v, y) := fun qa qb QA QB => by
    obtain ⟨a, b, c, d, e⟩ := kC qa qb QA QB
    exact ⟨_, e⟩
  have R : ∀ ra rb : Int64, ∃ y, f_X11_arePrimeTo N (lI x.1) (lI x.2) (lI m.1) (lI m.2) ra rb = some (v, y) := fun ra rb => by
    obtain ⟨a, b, e⟩ := kR ra rb
    exact ⟨_, e⟩
  constructor
  · intro h
    have e := iff.mpr h
    subst e
    exact ⟨C, R⟩
  · intro h
    have e : v = 0 := by
      rcases hv with z | z
      · exact z
      · exact absurd (iff.mp z) h
    subst e
    exact ⟨C, R⟩
theorem cl_eb {k : Nat} (hW : W ≤ 2000) (hH : H ≤ W) (hk : k < W * H) : eb (cl W k) := by
  obtain ⟨r1, r2, r3, r4⟩ := cl_isR (H := H) hk
  have := nrm_le (M := 2000) (show -2000 ≤ (cl W k).1 by omega) (show (cl W k).1 ≤ 2000 by omega) (show -2000 ≤ (cl W k).2 by omega) (show (cl W k).2 ≤ 2000 by omega)
  unfold eb
  show nrm (cl W k).1 (cl W k).2 ≤ 300000000
  omega
theorem s_comes2 {k : Nat} (hW0 : 0 < W) (hW : W ≤ 2000) (hk : k < 2147483648) : f_X11_comes (nI k) (lI W) = some (lI (cl W k).1, lI (cl W k).2) := by
  have e : k / W * W + k % W = k := by rw [Nat.mul_comm]; exact Nat.div_add_mod k W
  have := s_comes (W := W) (x := k % W) (y := k / W) (Nat.mod_lt k hW0) (by omega) (by omega)
  rw [e] at this
  exact this
theorem lo_loop {N : Nat} (hN : 1048576 ≤ N) (h : bx m (H : Int) (W : Int) S) (hb : en m ≤ 2000) : ∀ (j n : Nat), n + j = W * H → ∀ (f : Nat) (ra rb : Int64) (A : Nat → Int32), j < f → (∀ i, i < n → A i = bI (copb W m i)) → ∃ (ra' rb' : Int64) (A' : Nat → Int32), f_X11_laysOpen_3 N f (lI m.1) (lI m.2) (nI n) ra rb (lI W) (lI H) A = some (ra', rb', A') ∧ ∀ i, i < W * H → A' i = bI (copb W m i) := by
  obtain ⟨n1, n2, n3, n4⟩ := bx_nat h hb
  have hb' : eb m := Int.le_trans hb (by decide)
  have hWH : W * 1 ≤ W * H := Nat.mul_le_mul_left W n1
  intro j
  induction j with
  | zero =>
    intro n hn f ra rb A hf hA
    obtain ⟨f, rfl⟩ : ∃ f', f = f' + 1 := ⟨f - 1, by omega⟩
    obtain rfl : n = W * H := by omega
    exact ⟨ra, rb, A, by rw [f_X11_laysOpen_3, ecl, Option.bind_some, if_pos (nI_le (by omega) (by omega))], hA⟩
  | succ j ih =>
    intro n hn f ra rb A hf hA
    obtain ⟨f, rfl⟩ : ∃ f', f = f' + 1 := ⟨f - 1, by omega⟩
    have sc := s_cop hN (x := cl W n) (m := m) (cl_eb (H := H) (by omega) n2 (by omega)) hb'
    have key : ∃ y : Int64 × Int64, f_X11_arePrimeTo N (lI (cl W n).1) (lI (cl W n).2) (lI m.1) (lI m.2) (lI (cl W n).1) (lI (cl W n).2) = some (bI (copb W m n), y) := by
      by_cases c : cop (cl W n) m
      · obtain ⟨y, e⟩ := (sc.1 c).2 (lI (cl W n).1) (lI (cl W n).2)
        rw [copb_iff.mpr c]
        exact ⟨y, e⟩
      · obtain ⟨y, e⟩ := (sc.2 c).2 (lI (cl W n).1) (lI (cl W n).2)
        have : copb W m n = false := by
          cases e2 : copb W m n
          · rfl
          · exact absurd (copb_iff.mp e2) c
        rw [this]
        exact ⟨y, e⟩
    obtain ⟨y, ey⟩ := key
    have an : bI (copb W m n) &&& 1 = bI (copb W m n) := by cases copb W m n <;> decide
    rw [f_X11_laysOpen_3, ecl, Option.bind_some, if_neg (nI_ge (by omega) (by omega)), s_comes2 (by omega) (by omega) (by omega), Option.bind_some]
    simp only []
    rw [ey, Option.bind_some, if_neg (n_ok (by omega)), n_cl (by omega), nI_1, an]
    refine ih (n + 1) (by omega) f _ _ _ (by omega) (fun i hi => ?_)
    unfold upd
    by_cases c : i = n
    · rw [if_pos c, c]
    · rw [if_neg c]; exact hA i (by omega)
theorem c1_loop {N : Nat} (hL : W * H ≤ 2000) (v2 : Int32) {f0 : Nat → Nat} {A O : Nat → Int32} {P : Nat → Bool} (hA : isC A (W * H) f0 (W * H)) (hO : ∀ i, i < W * H → O i = bI (P i)) (ra rb ms : Int64) : ∀ (j n : Nat), n + j = W * H → ∀ f : Nat, j < f → f_X11_classes_123 N f v2 (nI (cb (fun i => P i && (decide (v2 = 1) || decide (0 < cn f0 (W * H) i))) n)) (nI n) ra rb (lI W) (lI H) ms A O = some (nI (cb (fun i => P i && (decide (v2 = 1) || decide (0 < cn f0 (W * H) i))) (W * H)), ra, rb, lI W, lI H, ms, A, O) := by
  intro j
  induction j with
  | zero =>
    intro n hn f hf
    obtain ⟨f, rfl⟩ : ∃ f', f = f' + 1 := ⟨f - 1, by omega⟩
    obtain rfl : n = W * H := by omega
    rw [f_X11_classes_123, ecl, Option.bind_some, if_pos (nI_le (by omega) (by omega))]
  | succ j ih =>
    intro n hn f hf
    obtain ⟨f, rfl⟩ : ∃ f', f = f' + 1 := ⟨f - 1, by omega⟩
    have I := ih (n + 1) (by omega) f (by omega)
    have es : cb (fun i => P i && (decide (v2 = 1) || decide (0 < cn f0 (W * H) i))) (n + 1) = cb (fun i => P i && (decide (v2 = 1) || decide (0 < cn f0 (W * H) i))) n + (if (P n && (decide (v2 = 1) || decide (0 < cn f0 (W * H) n))) = true then 1 else 0) := rfl
    have cl := cn_le f0 n (W * H)
    have e0 : (A n ≤ 0) = (cn f0 (W * H) n = 0) := by
      rw [hA n (by omega)]
      exact propext ⟨fun z => by
        by_cases c2 : cn f0 (W * H) n = 0
        · exact c2
        · exact absurd z (nI_nle (by omega) (by omega)), fun z => by rw [z]; decide⟩
    rw [f_X11_classes_123, ecl, Option.bind_some, if_neg (nI_ge (by omega) (by omega)), if_neg (n_ok (by omega)), if_neg (n_ok (by omega)), n_cl (by omega), hO n (by omega), nI_1]
    simp only [e0]
    cases cp : P n
    · rw [cp] at es
      simp only [Bool.false_and, Bool.false_eq_true, if_false, Nat.add_zero] at es
      rw [es] at I
      rw [if_pos (show bI false = 0 from rfl), Int32.add_zero]
      exact I
    · rw [cp] at es
      rw [if_neg (show ¬ bI true = 0 by decide)]
      by_cases c1 : v2 = 1
      · rw [if_pos c1, nI_1]
        have : (true && (decide (v2 = 1) || decide (0 < cn f0 (W * H) n))) = true := by simp [c1]
        rw [if_pos this] at es
        rw [es] at I
        exact I
      · rw [if_neg c1]
        by_cases c0 : cn f0 (W * H) n = 0
        · rw [if_pos c0, Int32.add_zero]
          have : ¬ (true && (decide (v2 = 1) || decide (0 < cn f0 (W * H) n))) = true := by simp [c1, c0]
          rw [if_neg this, Nat.add_zero] at es
          rw [es] at I
          exact I
        · rw [if_neg c0, nI_1]
          have : (true && (decide (v2 = 1) || decide (0 < cn f0 (W * H) n))) = true := by simp; omega
          rw [if_pos this] at es
          rw [es] at I
          exact I
/-- how many roots 1 has, the class -/
theorem sr_row {N K : Nat} (h : bx m (H : Int) (W : Int) S) (hb : en m ≤ 2000) {t : Int × Int} (ht : isR (H : Int) (W : Int) t) {y : Nat} (hy : y < H) (p1 p2 : Int64) : ∀ (mx x : Nat), x + mx = W → ∀ (f : Nat) (oa ob : Int64), mx < f → ∃ oa' ob' : Int64, f_X10_seekResidue_22 N (f_X10_seekResidue_6 N K) f 1 (-1) (nI (cn (cpl H W S) (y * W + x) (plc W t))) (lI y) (lI x) (lI H) (lI W) (lI S) p1 p2 oa ob (lI t.1) (lI t.2) = f_X10_seekResidue_6 N K 1 (-1) (nI (cn (cpl H W S) ((y + 1) * W) (plc W t))) (lI ((y + 1 : Nat) : Int)) (lI H) (lI W) (lI S) p1 p2 oa' ob' (lI t.1) (lI t.2) := by
  obtain ⟨n1, n2, n3, n4⟩ := bx_nat h hb
  have hb' : eb m := Int.le_trans hb (by decide)
  have hWH : W * 1 ≤ W * H := Nat.mul_le_mul_left W n1
  have et : ∀ z : Nat, lI (z : Int) + 1 = lI ((z + 1 : Nat) : Int) := by intro z; rw [l1, lI_add]; rfl
  intro mx
  induction mx with
  | zero =>
    intro x hx f oa ob hf
    obtain rfl : x = W := by omega
    obtain ⟨f, rfl⟩ : ∃ f', f = f' + 1 := ⟨f - 1, by omega⟩
    rw [f_X10_seekResidue_22, if_pos (by rw [lI_le ⟨by omega, by omega⟩ ⟨by omega, by omega⟩]; exact Int.le_refl _), et, Nat.succ_mul]
    exact ⟨oa, ob, rfl⟩
  | succ mx ih =>
    intro x hx f oa ob hf
    have hxW : x < W := by omega
    have hi := lt_box hxW hy
    obtain ⟨f, rfl⟩ : ∃ f', f = f' + 1 := ⟨f - 1, by omega⟩
    have hr : isR (H : Int) (W : Int) ((x : Int), (y : Int)) := ⟨by show (0 : Int) ≤ x; omega, by show (x : Int) < W; omega, by show (0 : Int) ≤ y; omega, by show (y : Int) < H; omega⟩
    have ok := cube_ok h hb' (by omega) hr
    have red : f_X4_reduce (lI H) (lI W) (lI S) (lI (em (em ((x : Int), (y : Int)) ((x : Int), (y : Int))) ((x : Int), (y : Int))).1) (lI (em (em ((x : Int), (y : Int)) ((x : Int), (y : Int))) ((x : Int), (y : Int))).2) = some (lI (rs H W S (cu3 ((x : Int), (y : Int)))).1, lI (rs H W S (cu3 ((x : Int), (y : Int)))).2) := s_reduce h hb' ok.1 ok.2
    have hq := rs_isR h (cu3 ((x : Int), (y : Int)))
    have ep : plc W (rs H W S (cu3 ((x : Int), (y : Int)))) = cpl H W S (y * W + x) := by unfold cpl; rw [cl_eq hxW]
    have b1 := isR_64 (by omega) n2 hq
    have b2 := isR_64 (by omega) n2 ht
    have es : cn (cpl H W S) (y * W + x + 1) (plc W t) = cn (cpl H W S) (y * W + x) (plc W t) + (if cpl H W S (y * W + x) = plc W t then 1 else 0) := rfl
    have cl := cn_le (cpl H W S) (plc W t) (y * W + x)
    rw [f_X10_seekResidue_22, if_neg (by rw [lI_le ⟨by omega, by omega⟩ ⟨by omega, by omega⟩]; omega)]
    unfold f_X5_set
    rw [Option.bind_some, if_neg j1]
    simp only []
    rw [s_cube, Option.bind_some]
    unfold f_X10_seekResidue_71
    simp only []
    rw [red, Option.bind_some]
    simp only []
    rw [s_isSame b1 b2, Option.bind_some, et, nI_1, nI_pred]
    obtain ⟨oa', ob', I⟩ := ih (x + 1) (by omega) f (lI (rs H W S (cu3 ((x : Int), (y : Int)))).1) (lI (rs H W S (cu3 ((x : Int), (y : Int)))).2) (by omega)
    refine ⟨oa', ob', ?_⟩
    rw [← I, show y * W + (x + 1) = y * W + x + 1 by omega, es]
    by_cases c : rs H W S (cu3 ((x : Int), (y : Int))) = t
    · have c2 : cpl H W S (y * W + x) = plc W t := by rw [← ep, c]
      rw [if_pos (decide_eq_true c), if_neg j1, if_neg (nm1 (by omega)), if_pos c2]
    · have c2 : ¬ cpl H W S (y * W + x) = plc W t := fun z => c (plc_inj hq ht (by rw [ep, z]))
      have nd : ¬ decide (rs H W S (cu3 ((x : Int), (y : Int))) = t) = true := by simp only [decide_eq_true_eq]; exact c
      rw [if_neg nd, if_pos rfl, if_neg c2] <;> rfl
theorem sr_all2 {N : Nat} (hN : 1048576 ≤ N) (h : bx m (H : Int) (W : Int) S) (hb : en m ≤ 2000) {t : Int × Int} (ht : isR (H : Int) (W : Int) t) (p1 p2 : Int64) : ∀ (my y : Nat), y + my = H → ∀ (K : Nat) (oa ob : Int64), my < K → ∃ oa' ob' : Int64, f_X10_seekResidue_6 N K 1 (-1) (nI (cn (cpl H W S) (y * W) (plc W t))) (lI y) (lI H) (lI W) (lI S) p1 p2 oa ob (lI t.1) (lI t.2) = some (nI (cn (cpl H W S) (W * H) (plc W t)), oa', ob') := by
  obtain ⟨n1, n2, n3, n4⟩ := bx_nat h hb
  have hWH : W * 1 ≤ W * H := Nat.mul_le_mul_left W n1
  intro my
  induction my with
  | zero =>
    intro y hy K oa ob hK
    obtain rfl : y = H := by omega
    obtain ⟨K, rfl⟩ : ∃ K', K = K' + 1 := ⟨K - 1, by omega⟩
    rw [f_X10_seekResidue_6, if_pos (by rw [lI_le ⟨by omega, by omega⟩ ⟨by omega, by omega⟩]; exact Int.le_refl _), Nat.mul_comm y W]
    exact ⟨oa, ob, rfl⟩
  | succ my ih =>
    intro y hy K oa ob hK
    obtain ⟨K, rfl⟩ : ∃ K', K = K' + 1 := ⟨K - 1, by omega⟩
    obtain ⟨oa', ob', e⟩ := sr_row (N := N) (K := K) h hb ht (show y < H by omega) p1 p2 W 0 (by omega) N oa ob (by omega)
    rw [f_X10_seekResidue_6, if_neg (by rw [lI_le ⟨by omega, by omega⟩ ⟨by omega, by omega⟩]; omega), show (0 : Int64) = lI ((0 : Nat) : Int) from rfl]
    rw [Nat.add_zero] at e
    rw [e]
    exact ih (y + 1) (by omega) K oa' ob' (by omega)
theorem s_cubesAmong {N : Nat} (hN : 1048576 ≤ N) (h : bx m (H : Int) (W : Int) S) (hb : en m ≤ 2000) (oa ob : Int64) : ∃ y, f_X10_cubesAmong N (nI (phi H W m)) (lI H) (lI W) (lI S) oa ob = some (nI (cb (fun k => copb W m k && decide (0 < cn (cpl H W S) (W * H) k)) (W * H)), y) := by
  obtain ⟨n1, n2, n3, n4⟩ := bx_nat h hb
  have hb' : eb m := Int.le_trans hb (by decide)
  have hWH : W * 1 ≤ W * H := Nat.mul_le_mul_left W n1
  have hr := rs_isR h (1, 0)
  have q1 := small_ok h hb' (x := 1) (y := 0) ⟨by decide, by decide⟩ ⟨by decide, by decide⟩
  have rd0 := s_reduce (x := 1) (y := 0) h hb' q1.1 q1.2.1
  have rd : f_X4_reduce (lI H) (lI W) (lI S) 1 0 = some (lI (rs H W S (1, 0)).1, lI (rs H W S (1, 0)).2) := rd0
  obtain ⟨oa', ob', e⟩ := sr_all2 hN h hb hr (lI (rs H W S (1, 0)).1) (lI (rs H W S (1, 0)).2) H 0 (by omega) N oa ob (by omega)
  have e0 : cn (cpl H W S) (0 * W) (plc W (rs H W S (1, 0))) = 0 := by rw [Nat.zero_mul]; rfl
  rw [e0] at e
  rw [show nI 0 = 0 from rfl, show lI ((0 : Nat) : Int) = 0 from rfl] at e
  have hk1 := plc_lt hr
  have e1 : cg m (cl W (plc W (rs H W S (1, 0)))) (1, 0) := by rw [cl_plc hr]; exact cg_symm (cg_rs h _)
  obtain ⟨R0, ph⟩ := cubes_phi h hk1 e1
  obtain ⟨R, hR⟩ : ∃ R, R = cn (cpl H W S) (W * H) (plc W (rs H W S (1, 0))) := ⟨_, rfl⟩
  have Rl := cn_le (cpl H W S) (plc W (rs H W S (1, 0))) (W * H)
  rw [← hR] at e R0 ph Rl
  have pl := cb_le (copb W m) (W * H)
  unfold f_X10_cubesAmong f_X5_set f_X10_seekResidue
  rw [Option.bind_some]
  simp only []
  rw [rd, Option.bind_some]
  simp only []
  rw [e, Option.bind_some]
  have ge : (1 : Int32) ≤ nI R := nI_le (a := 1) (by omega) (by omega)
  have dv : nI (phi H W m) / nI R = nI (cb (fun k => copb W m k && decide (0 < cn (cpl H W S) (W * H) k)) (W * H)) := by
    rw [iI_nI, iI_nI, iI_nI, i_div (by unfold phi; omega) (by omega), ph, Nat.mul_div_cancel_left _ R0]
  simp only []
  rw [if_pos ge, if_neg (nI_ne0 R0 (by omega)), dv]
  exact ⟨_, rfl⟩
end CLQ
theorem q_classes (N : Nat) (hN : 1048576 ≤ N) (v1 v2 : Int32) (m_drawers_full m_drawers_kept : Int32) (m_drawers_partA m_drawers_partB m_drawers_keptA m_drawers_keptB m_drawers_keptFull : Nat → Int32) (m_tape_size : Int32) (m_tape_bytes : Nat → Int32) (m_modulus_step m_modulus_width m_modulus_slant : Int64) (m_factors_count m_factors_threes m_factors_unit : Int32) (m_factors_primeA m_factors_primeB m_factors_norms : Nat → Int64) (m_factors_euclid_count : Int32) (m_factors_euclid_last_a m_factors_euclid_last_b m_factors_euclid_lastOfFirst_a m_factors_euclid_lastOfFirst_b m_factors_euclid_lastOfSecond_a m_factors_euclid_lastOfSecond_b m_factors_euclid_next_a m_factors_euclid_next_b m_factors_euclid_nextOfFirst_a m_factors_euclid_nextOfFirst_b m_factors_euclid_nextOfSecond_a m_factors_euclid_nextOfSecond_b m_factors_euclid_q_a m_factors_euclid_q_b : Int64) (m_factors_euclid_quotientA m_factors_euclid_quotientB : Nat → Int64) (m_factors_left_a m_factors_left_b m_factors_found_a m_factors_found_b m_factors_product_a m_factors_product_b : Int64) (m_primes_count : Int32) (m_primes_primeA m_primes_primeB : Nat → Int32) (m_one_a m_one_b m_two_a m_two_b m_out_a m_out_b : Int64) (m_taped m_states : Int32) (m_ra m_rb m_boxWide m_boxHigh m_boxStep : Int64) (m_listed : Int32) (m_tape m_has m_keptHas m_first m_second m_keptFirst m_keptSecond m_cubed m_isOpen m_la0 m_lb0 : Nat → Int32) (hR : kR m_drawers_full m_drawers_kept m_drawers_partA m_drawers_partB m_drawers_keptA m_drawers_keptB m_drawers_keptFull m_tape_size m_tape_bytes m_primes_count m_primes_primeA m_primes_primeB m_taped m_tape m_has m_keptHas m_first m_second m_keptFirst m_keptSecond m_states m_la0 m_lb0 m_listed) : ∃ (y : Int32 × Int64 × Int64 × Int64 × Int32 × Int32 × Int32 × (Nat → Int64) × (Nat → Int64) × (Nat → Int64) × Int32 × Int64 × Int64 × Int64 × Int64 × Int64 × Int64 × Int64 × Int64 × Int64 × Int64 × Int64 × Int64 × Int64 × Int64 × (Nat → Int64) × (Nat → Int64) × Int64 × Int64 × Int64 × Int64 × Int64 × Int64 × Int64 × Int64 × Int64 × Int64 × Int64 × Int64) (z : Int32 × Int64 × Int64 × Int64 × Int64 × Int64 × (Nat → Int32) × (Nat → Int32)), f_X10_classes N v1 v2 m_drawers_full m_drawers_partA m_drawers_partB m_modulus_step m_modulus_width m_modulus_slant m_factors_count m_factors_threes m_factors_unit m_factors_primeA m_factors_primeB m_factors_norms m_factors_euclid_count m_factors_euclid_last_a m_factors_euclid_last_b m_factors_euclid_lastOfFirst_a m_factors_euclid_lastOfFirst_b m_factors_euclid_lastOfSecond_a m_factors_euclid_lastOfSecond_b m_factors_euclid_next_a m_factors_euclid_next_b m_factors_euclid_nextOfFirst_a m_factors_euclid_nextOfFirst_b m_factors_euclid_nextOfSecond_a m_factors_euclid_nextOfSecond_b m_factors_euclid_q_a m_factors_euclid_q_b m_factors_euclid_quotientA m_factors_euclid_quotientB m_factors_left_a m_factors_left_b m_factors_found_a m_factors_found_b m_factors_product_a m_factors_product_b m_one_a m_one_b m_two_a m_two_b m_out_a m_out_b = some y ∧ f_X11_classes N v1 v2 m_ra m_rb m_boxWide m_boxHigh m_boxStep m_has m_first m_second m_cubed m_isOpen = some z ∧ y.1 = z.1 ∧ kR m_drawers_full m_drawers_kept m_drawers_partA m_drawers_partB m_drawers_keptA m_drawers_keptB m_drawers_keptFull m_tape_size m_tape_bytes m_primes_count m_primes_primeA m_primes_primeB m_taped m_tape m_has m_keptHas m_first m_second m_keptFirst m_keptSecond m_states m_la0 m_lb0 m_listed := by
  have hR0 := hR
  obtain ⟨⟨dr, hD⟩, hK, hT, hP⟩ := hR
  unfold f_X10_classes f_X11_classes
  rcases dr_cases v1 with h1 | ⟨i, hi, rfl⟩
  · rw [(dr_out h1).1, (dr_out h1).2, Option.bind_some, if_pos rfl, Option.bind_some, if_pos rfl]
    exact ⟨_, _, rfl, rfl, rfl, hR0⟩
  obtain ⟨w, hw, rfl⟩ := iI_of v2
  have hlt : (iI w < 0) = (w < 0) := propext (iI_lt0 hw)
  have hle : (iI w ≤ 2) = (w ≤ 2) := propext (iI_le hw (b := 2) ⟨by decide, by decide⟩)
  have hin : f_X11_in (iI w).toInt64 0 2 = some (if 0 ≤ w ∧ w ≤ 2 then 1 else 0) := s_in32 hw (l := 0) (h := 2) ⟨by decide, by decide⟩ ⟨by decide, by decide⟩
  have q0 : (iI w = 0) = (w = 0) := propext (iI_0 hw)
  rw [(dr_in hi).1, (dr_in hi).2, Option.bind_some, if_neg j1, Option.bind_some, if_neg j1, hin, Option.bind_some]
  simp only [hlt, hle, q0]
  by_cases cw : 0 ≤ w ∧ w ≤ 2
  · rw [if_neg (show ¬ w < 0 by omega), if_pos cw.2, if_pos cw, if_neg j1]
    cases e1 : dr i with
    | none =>
      rw [s_has0 hD hi e1, Option.bind_some, if_pos rfl]
      simp only [hD.hasN hi e1, dr_cl hi, dr_n0 hi, dr_8 hi, or_self, if_false, if_true]
      exact ⟨_, _, rfl, rfl, rfl, hR0⟩
    | some p =>
      obtain ⟨c, d⟩ := p
      obtain ⟨hn, -, -, f1, g1⟩ := hD.num hi e1
      have hx := hn.eb
      rw [s_has1 hD hi e1, Option.bind_some, if_neg j1, s_load hD hi e1, Option.bind_some]
      simp only [hD.has1 hi e1, dr_cl hi, dr_n0 hi, dr_8 hi, or_self, if_false, f1, g1, iI_l hn.b32.1, iI_l hn.b32.2, z10]
      unfold f_X10_classes_76
      by_cases w0 : w = 0
      · rw [if_pos w0, if_pos w0, s_isNothing hD hi e1, Option.bind_some]
        simp only [q0, w0, if_true]
        by_cases c0 : c = 0 ∧ d = 0
        · obtain ⟨rfl, rfl⟩ := c0
          rw [s_open0 hN, Option.bind_some, if_pos rfl, if_pos (show (0 : Int) = 0 ∧ (0 : Int) = 0 from ⟨rfl, rfl⟩), if_neg j1]
          exact ⟨_, _, rfl, rfl, rfl, hR0⟩
        · obtain ⟨H, W, S, hB, k3, k4⟩ := s_box hN hx (ne00 c0)
          rw [k3, Option.bind_some, if_neg j1, s_norm, Option.bind_some, if_neg c0, if_pos rfl, s_normOf, Option.bind_some]
          exact ⟨_, _, rfl, rfl, lI_i _, hR0⟩
      · rw [if_neg w0, if_neg w0]
        rcases few_cases hN hD hi e1 (L := 2000) ⟨by decide, by decide⟩ m_modulus_step m_modulus_width m_modulus_slant with ⟨⟨y, k1⟩, k2⟩ | ⟨H, W, S, b1, b2, hB, k1, k2, k3⟩
        · have k1' : f_X4_openFew N 2000 m_modulus_step m_modulus_width m_modulus_slant (lI c) (lI d) = some (0, y) := k1
          have k2' : f_X11_isGreat (nI i) 2000 m_first m_second = some 1 := k2
          rw [k1', k2', Option.bind_some, Option.bind_some, if_pos rfl, if_neg j1]
          exact ⟨_, _, rfl, rfl, rfl, hR0⟩
        · have k1' : f_X4_openFew N 2000 m_modulus_step m_modulus_width m_modulus_slant (lI c) (lI d) = some (1, lI H, lI W, lI S) := k1
          have k2' : f_X11_isGreat (nI i) 2000 m_first m_second = some 0 := k2
          obtain ⟨n1, n2, n3, n4⟩ := bx_nat hB b1
          obtain ⟨ra1, rb1, A1, l1', l2'⟩ := s_laysCubes hN hB b1 k3 m_ra m_rb m_cubed
          have l1'' : f_X11_laysCubes N (lI c) (lI d) m_ra m_rb m_cubed = some (ra1, rb1, lI W, lI H, lI S, A1) := l1'
          obtain ⟨ra2, rb2, O, o1, o2⟩ := lo_loop hN hB b1 (W * H) 0 (by omega) N ra1 rb1 m_isOpen (by omega) (fun i hi => absurd hi (by omega))
          have o1' : f_X11_laysOpen N (lI c) (lI d) ra1 rb1 (lI W) (lI H) m_isOpen = some (ra2, rb2, O) := o1
          have ct := c1_loop (N := N) (H := H) (W := W) (by omega) (iI w) (P := copb W (c, d)) l2' o2 ra2 rb2 (lI S) (W * H) 0 (by omega) N (by omega)
          have ct' : f_X11_classes_123 N N (iI w) 0 0 ra2 rb2 (lI W) (lI H) (lI S) A1 O = _ := ct
          obtain ⟨L, t, u, s1, s2, s3, s4, s5, s6, C, -⟩ := s_fac2 hN hn b2
          obtain ⟨A', B', n', z, r1, e2⟩ := C m_factors_primeA m_factors_primeB m_factors_norms m_factors_euclid_count m_factors_euclid_last_a m_factors_euclid_last_b m_factors_euclid_lastOfFirst_a m_factors_euclid_lastOfFirst_b m_factors_euclid_lastOfSecond_a m_factors_euclid_lastOfSecond_b m_factors_euclid_next_a m_factors_euclid_next_b m_factors_euclid_nextOfFirst_a m_factors_euclid_nextOfFirst_b m_factors_euclid_nextOfSecond_a m_factors_euclid_nextOfSecond_b m_factors_euclid_q_a m_factors_euclid_q_b m_factors_euclid_quotientA m_factors_euclid_quotientB m_factors_found_a m_factors_found_b m_factors_product_a m_factors_product_b
          have pf := phi_fac hN s1 s6 hx b2 hB
          have x2 : f_X2_primeClasses N (nI L.length) (nI t) A' B' n' = some (lI ((phi H W (c, d) : Nat) : Int)) := by rw [pf]; exact pc_loop r1 s2 s3 s4 (t + L.length) 0 (by omega) N 1 (by omega)
          rw [k1', k2', Option.bind_some, Option.bind_some, if_neg j1, if_pos rfl, l1'', Option.bind_some]
          simp only []
          rw [o1', Option.bind_some]
          simp only []
          rw [ct']
          simp only [q0, w0, if_false]
          rw [e2, Option.bind_some]
          simp only []
          rw [x2, Option.bind_some, lI_i, ← iI_nI]
          have w12 : w = 1 ∨ w = 2 := by omega
          rcases w12 with rfl | rfl
          · rw [if_pos (show iI 1 = 1 by decide)]
            refine ⟨_, _, rfl, rfl, ?_, hR0⟩
            show nI (phi H W (c, d)) = nI _
            unfold phi
            rw [cb_congr (W * H) (fun k hk => by show copb W (c, d) k = (copb W (c, d) k && (decide (iI 1 = 1) || decide (0 < cn (cpl H W S) (W * H) k))); rw [show decide (iI 1 = (1 : Int32)) = true from rfl, Bool.true_or, Bool.and_true])]
          · rw [if_neg (show ¬ iI 2 = 1 by decide)]
            obtain ⟨y, ey⟩ := s_cubesAmong hN hB b1 m_out_a m_out_b
            rw [ey, Option.bind_some]
            refine ⟨_, _, rfl, rfl, ?_, hR0⟩
            show nI _ = nI _
            rw [cb_congr (W * H) (fun k hk => by show (copb W (c, d) k && decide (0 < cn (cpl H W S) (W * H) k)) = (copb W (c, d) k && (decide (iI 2 = 1) || decide (0 < cn (cpl H W S) (W * H) k))); rw [show decide (iI 2 = (1 : Int32)) = false from rfl, Bool.false_or])]
  · have cA : ∀ {α : Type} {P R : Option α}, (if w < 0 then P else if w ≤ 2 then R else P) = P := by
      intro α P R
      by_cases c1 : w < 0
      · rw [if_pos c1]
      · rw [if_neg c1, if_neg (by omega)]
    rw [cA, if_neg cw, if_pos rfl]
    exact ⟨_, _, rfl, rfl, rfl, hR0⟩
