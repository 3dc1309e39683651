/-! ===== greatest common divisors of whole numbers; both sides' boxes ===== -/
theorem lz : lI 0 = 0 := rfl
theorem slant_aux {g a b i k t I : Int} (hI : I = a * a - a * b + b * b) (h : i * b = 1 + I * t) : (g * (a * i - I * k), g) = em (g * a, g * b) (esb (i, 0) (em (a - b, -b) (k, t))) := by
  unfold esb em
  refine e_ext ?_ ?_
  · simp only []; rw [hI]; grind
  · have e : g * a * (0 - ((a - b) * t + -b * k - -b * t)) + g * b * (i - ((a - b) * k - -b * t)) - g * b * (0 - ((a - b) * t + -b * k - -b * t)) = g * (i * b - (a * a - a * b + b * b) * t) := by grind
    show g = g * a * (0 - ((a - b) * t + -b * k - -b * t)) + g * b * (i - ((a - b) * k - -b * t)) - g * b * (0 - ((a - b) * t + -b * k - -b * t))
    rw [e, ← hI, h]
    have e2 : 1 + I * t - I * t = 1 := by omega
    rw [e2, Int.mul_one]
theorem half_mul {x y r j : Int} (h0 : 0 ≤ r) (h1 : r < y) (h2 : y + r ≤ x) (h3 : x * y < 2 * j) : y * r < j := by
  have e1 : y * (y + r) ≤ y * x := Int.mul_le_mul_of_nonneg_left h2 (by omega)
  have e2 : y * r ≤ y * y := Int.mul_le_mul_of_nonneg_left (by omega) (by omega)
  have e3 := Int.mul_add y y r
  have e4 := Int.mul_comm x y
  omega
theorem em_pos {x y : Int} (h0 : 1 ≤ y) (h1 : y ≤ x) : 0 ≤ x % y ∧ x % y < y ∧ y + x % y ≤ x ∧ x = y * (x / y) + x % y ∧ 1 ≤ x / y := by
  have e1 := Int.emod_nonneg x (show y ≠ 0 by omega)
  have e2 := Int.emod_lt_of_pos x (show 0 < y by omega)
  have e3 := Int.mul_ediv_add_emod x y
  have e4 : 1 ≤ x / y := Int.le_ediv_of_mul_le (by omega) (by omega)
  have e5 := Int.mul_le_mul_of_nonneg_left e4 (show 0 ≤ y by omega)
  refine ⟨e1, e2, by omega, e3.symm, e4⟩
theorem dv_loop (N : Nat) : ∀ (j : Nat) (x y : Int), 0 ≤ y → y ≤ x → x ≤ 400000000 → x * y < 2 ^ j → ∃ g : Int, 0 ≤ g ∧ g ≤ x ∧ g ∣ x ∧ g ∣ y ∧ (∃ u v : Int, g = u * x + v * y) ∧ ∀ c k : Nat, c + j < 100 → j < k → f_X9_divisor_15 N k (lI x) (lI y) (nI c) = some (lI g) := by
  have base : ∀ (x : Int), 0 ≤ x → x ≤ 400000000 → ∃ g : Int, 0 ≤ g ∧ g ≤ x ∧ g ∣ x ∧ g ∣ 0 ∧ (∃ u v : Int, g = u * x + v * 0) ∧ ∀ c k : Nat, c < 100 → 0 < k → f_X9_divisor_15 N k (lI x) (lI 0) (nI c) = some (lI g) := by
    intro x h0 h1
    refine ⟨x, h0, Int.le_refl _, Int.dvd_refl _, Int.dvd_zero _, ⟨1, 0, by omega⟩, fun c k hc hk => ?_⟩
    obtain ⟨k, rfl⟩ : ∃ k', k = k' + 1 := ⟨k - 1, by omega⟩
    rw [f_X9_divisor_15, if_neg (nl100 (show c < 100 by omega)), if_pos lz]
  intro j
  induction j with
  | zero =>
    intro x y h0 h1 h2 h3
    have hy : y = 0 := by
      by_cases c : y = 0
      · exact c
      · have := Int.mul_le_mul_of_nonneg_left (show 1 ≤ y by omega) (show 0 ≤ x by omega)
        have e : (2 : Int) ^ 0 = 1 := rfl
        omega
    subst hy
    obtain ⟨g, g1, g2, g3, g4, g5, g6⟩ := base x h1 h2
    exact ⟨g, g1, g2, g3, g4, g5, fun c k hc hk => g6 c k (by omega) (by omega)⟩
  | succ j ih =>
    intro x y h0 h1 h2 h3
    by_cases cy : y = 0
    · subst cy
      obtain ⟨g, g1, g2, g3, g4, g5, g6⟩ := base x h1 h2
      exact ⟨g, g1, g2, g3, g4, g5, fun c k hc hk => g6 c k (by omega) (by omega)⟩
    · obtain ⟨e1, e2, e3, e4, -⟩ := em_pos (show 1 ≤ y by omega) h1
      have hm : y * (x % y) < 2 ^ j := half_mul e1 e2 e3 (by rw [Int.pow_succ] at h3; omega)
      obtain ⟨g, g1, g2, g3, g4, ⟨u, v, g5⟩, g6⟩ := ih y (x % y) e1 (by omega) (by omega) hm
      refine ⟨g, g1, by omega, ?_, g3, ⟨v, u - v * (x / y), ?_⟩, fun c k hc hk => ?_⟩
      · rw [e4]; exact Int.dvd_add (Int.dvd_mul_of_dvd_left g3) g4
      · rw [g5]
        have : x % y = x - y * (x / y) := by omega
        rw [this]; grind
      · obtain ⟨k, rfl⟩ : ∃ k', k = k' + 1 := ⟨k - 1, by omega⟩
        have b1 : b64 x := ⟨by omega, by omega⟩
        have b2 : b64 y := ⟨by omega, by omega⟩
        have n0 : ¬ lI y = 0 := by rw [lI_0 b2]; exact cy
        rw [f_X9_divisor_15, if_neg (nl100 (show c < 100 by omega)), if_neg n0, if_neg n0, lI_rem b1 b2, Int.tmod_eq_emod_of_nonneg (by omega), nI_1]
        exact g6 (c + 1) k (by omega) (by omega)
theorem s_divisor {N : Nat} (hN : 1048576 ≤ N) {a b : Int} (ha : -400000000 ≤ a ∧ a ≤ 400000000) (hb : -400000000 ≤ b ∧ b ≤ 400000000) : ∃ g : Int, 0 ≤ g ∧ g ≤ 400000000 ∧ g ∣ a ∧ g ∣ b ∧ (∃ u v : Int, g = u * a + v * b) ∧ f_X9_divisor N (lI a) (lI b) = some (lI g) := by
  have key : ∀ x y : Int, 0 ≤ x → 0 ≤ y → x ≤ 400000000 → y ≤ 400000000 → ∃ g : Int, 0 ≤ g ∧ g ≤ 400000000 ∧ g ∣ x ∧ g ∣ y ∧ (∃ u v : Int, g = u * x + v * y) ∧ f_X9_divisor_15 N N (lI x) (lI y) 0 = some (lI g) := by
    intro x y h1 h2 h3 h4
    have big : ∀ u v : Int, 0 ≤ u → 0 ≤ v → u ≤ 400000000 → v ≤ 400000000 → u * v < 2 ^ 58 := by
      intro u v p1 p2 p3 p4
      have : u * v ≤ 400000000 * 400000000 := Int.mul_le_mul p3 p4 p2 (by decide)
      have e : (2 : Int) ^ 58 = 288230376151711744 := by decide
      omega
    by_cases c : y ≤ x
    · obtain ⟨g, g1, g2, g3, g4, g5, g6⟩ := dv_loop N 58 x y h2 c h3 (big x y h1 h2 h3 h4)
      exact ⟨g, g1, by omega, g3, g4, g5, g6 0 N (by omega) (by omega)⟩
    · obtain ⟨g, g1, g2, g3, g4, ⟨u, v, g5⟩, g6⟩ := dv_loop N 58 y x h1 (by omega) h4 (big y x h2 h1 h4 h3)
      refine ⟨g, g1, by omega, g4, g3, ⟨v, u, by omega⟩, ?_⟩
      obtain ⟨M, rfl⟩ : ∃ M, N = M + 1 := ⟨N - 1, by omega⟩
      have b1 : b64 x := ⟨by omega, by omega⟩
      have b2 : b64 y := ⟨by omega, by omega⟩
      have n0 : ¬ lI y = 0 := by rw [lI_0 b2]; omega
      rw [f_X9_divisor_15, if_neg (by decide), if_neg n0, if_neg n0, lI_rem b1 b2, Int.tmod_eq_emod_of_nonneg (by omega), Int.emod_eq_of_lt (by omega) (by omega)]
      exact g6 1 M (by omega) (by omega)
  obtain ⟨g, g1, g2, g3, g4, ⟨u, v, g5⟩, g6⟩ := key (a.natAbs : Int) (b.natAbs : Int) (by omega) (by omega) (by omega) (by omega)
  refine ⟨g, g1, g2, Int.dvd_natAbs.mp g3, Int.dvd_natAbs.mp g4, ?_, ?_⟩
  · have s1 : ∃ e : Int, (a.natAbs : Int) = e * a := by
      by_cases c : 0 ≤ a
      · exact ⟨1, by omega⟩
      · exact ⟨-1, by omega⟩
    have s2 : ∃ e : Int, (b.natAbs : Int) = e * b := by
      by_cases c : 0 ≤ b
      · exact ⟨1, by omega⟩
      · exact ⟨-1, by omega⟩
    obtain ⟨e1, s1⟩ := s1
    obtain ⟨e2, s2⟩ := s2
    exact ⟨u * e1, v * e2, by rw [g5, s1, s2]; grind⟩
  · unfold f_X9_divisor
    rw [s_abs ⟨by omega, by omega⟩, Option.bind_some, s_abs ⟨by omega, by omega⟩, Option.bind_some]
    exact g6
theorem iv_loop (N : Nat) {sz n : Int} (hs : 1 ≤ sz) (hs' : sz ≤ 400000000) : ∀ (j : Nat) (x y p q A B : Int), 0 ≤ y → y ≤ x → 1 ≤ x → x ≤ sz → x * y < 2 ^ j → 0 ≤ A → 0 ≤ B → A ≤ sz + 1 → -A ≤ p → p ≤ A → -B ≤ q → q ≤ B → B * x + A * y ≤ sz → (∃ t, p * n = x + sz * t) → (∃ t, q * n = y + sz * t) → ∃ (g i : Int), 1 ≤ g ∧ g ∣ x ∧ g ∣ y ∧ 0 ≤ i ∧ i < sz ∧ (∃ t, i * n = g + sz * t) ∧ ∀ c k : Nat, c + j < 100 → j < k → f_X9_inverseBy_27 N k (lI sz) (lI x) (lI y) (lI p) (lI q) (nI c) = some (lI i) := by
  have bs : b64 sz := ⟨by omega, by omega⟩
  have base : ∀ (x p q A : Int), 1 ≤ x → A ≤ sz + 1 → -A ≤ p → p ≤ A → (∃ t, p * n = x + sz * t) → ∃ (g i : Int), 1 ≤ g ∧ g ∣ x ∧ g ∣ 0 ∧ 0 ≤ i ∧ i < sz ∧ (∃ t, i * n = g + sz * t) ∧ ∀ c k : Nat, c < 100 → 0 < k → f_X9_inverseBy_27 N k (lI sz) (lI x) (lI 0) (lI p) (lI q) (nI c) = some (lI i) := by
    intro x p q A h1 h2 h3 h4 ⟨t, ht⟩
    refine ⟨x, p % sz, h1, Int.dvd_refl _, Int.dvd_zero _, Int.emod_nonneg _ (by omega), Int.emod_lt_of_pos _ (by omega), ⟨t - p / sz * n, ?_⟩, fun c k hc hk => ?_⟩
    · rw [Int.emod_def]; grind
    · obtain ⟨k, rfl⟩ : ∃ k', k = k' + 1 := ⟨k - 1, by omega⟩
      rw [f_X9_inverseBy_27, if_neg (nl100 (show c < 100 by omega)), if_pos lz, s_floorMod ⟨by omega, by omega⟩ (by omega) bs, Option.bind_some]
  intro j
  induction j with
  | zero =>
    intro x y p q A B h0 h1 h2 h3 h4 h5 h6 h7 h8 h9 h10 h11 h12 h13 h14
    have hy : y = 0 := by
      by_cases c : y = 0
      · exact c
      · have := Int.mul_le_mul_of_nonneg_left (show 1 ≤ y by omega) (show 0 ≤ x by omega)
        have e : (2 : Int) ^ 0 = 1 := rfl
        omega
    subst hy
    obtain ⟨g, i, g1, g2, g3, g4, g5, g6, g7⟩ := base x p q A h2 h7 h8 h9 h13
    exact ⟨g, i, g1, g2, g3, g4, g5, g6, fun c k hc hk => g7 c k (by omega) (by omega)⟩
  | succ j ih =>
    intro x y p q A B h0 h1 h2 h3 h4 h5 h6 h7 h8 h9 h10 h11 h12 h13 h14
    by_cases cy : y = 0
    · subst cy
      obtain ⟨g, i, g1, g2, g3, g4, g5, g6, g7⟩ := base x p q A h2 h7 h8 h9 h13
      exact ⟨g, i, g1, g2, g3, g4, g5, g6, fun c k hc hk => g7 c k (by omega) (by omega)⟩
    · obtain ⟨e1, e2, e3, e4, e5⟩ := em_pos (show 1 ≤ y by omega) h1
      have hm : y * (x % y) < 2 ^ j := half_mul e1 e2 e3 (by rw [Int.pow_succ] at h4; omega)
      obtain ⟨t, ht⟩ := h13
      obtain ⟨t', ht'⟩ := h14
      have hBx : B * 1 ≤ B * x := Int.mul_le_mul_of_nonneg_left h2 h6
      have hAy : 0 ≤ A * y := Int.mul_nonneg h5 h0
      have hkB : 0 ≤ x / y * B := Int.mul_nonneg (by omega) h6
      have kq1 : -(x / y * B) ≤ x / y * q := by
        have := Int.mul_le_mul_of_nonneg_left h10 (show 0 ≤ x / y by omega)
        rw [Int.mul_neg] at this; omega
      have kq2 : x / y * q ≤ x / y * B := Int.mul_le_mul_of_nonneg_left h11 (by omega)
      have inv : (A + x / y * B) * y + B * (x % y) ≤ sz := by
        have : (A + x / y * B) * y + B * (x % y) = B * x + A * y := by
          have : x % y = x - y * (x / y) := by omega
          rw [this]; grind
        omega
      obtain ⟨g, i, g1, g2, g3, g4, g5, g6, g7⟩ := ih y (x % y) q (p - x / y * q) B (A + x / y * B) e1 (by omega) (by omega) (by omega) hm h6 (by omega) (by omega) h10 h11 (by omega) (by omega) inv ⟨t', ht'⟩ ⟨t - x / y * t', by
        have : x % y = x - y * (x / y) := by omega
        rw [this, Int.sub_mul, ht, Int.mul_assoc, ht']; grind⟩
      refine ⟨g, i, g1, ?_, g2, g4, g5, g6, fun c k hc hk => ?_⟩
      · rw [e4]; exact Int.dvd_add (Int.dvd_mul_of_dvd_left g2) g3
      · obtain ⟨k, rfl⟩ : ∃ k', k = k' + 1 := ⟨k - 1, by omega⟩
        have b1 : b64 x := ⟨by omega, by omega⟩
        have b2 : b64 y := ⟨by omega, by omega⟩
        have n0 : ¬ lI y = 0 := by rw [lI_0 b2]; exact cy
        rw [f_X9_inverseBy_27, if_neg (nl100 (show c < 100 by omega)), if_neg n0, if_neg n0, lI_rem b1 b2, lI_div b1 b2, lI_mul, lI_sub, Int.tmod_eq_emod_of_nonneg (by omega), Int.tdiv_eq_ediv_of_nonneg (by omega), nI_1]
        exact g7 (c + 1) k (by omega) (by omega)
theorem s_inverseBy {N : Nat} (hN : 1048576 ≤ N) {sz n : Int} (hs : 1 ≤ sz) (hs' : sz ≤ 400000000) (hn : b64 n) (hc : ∃ u v : Int, u * n + v * sz = 1) : ∃ i : Int, 0 ≤ i ∧ i < sz ∧ (∃ t, i * n = 1 + sz * t) ∧ f_X9_inverseBy N (lI n) (lI sz) = some (lI i) := by
  have bs : b64 sz := ⟨by omega, by omega⟩
  have r1 := Int.emod_nonneg n (show sz ≠ 0 by omega)
  have r2 := Int.emod_lt_of_pos n (show 0 < sz by omega)
  have r3 := Int.mul_ediv_add_emod n sz
  have big : sz * (n % sz) < 2 ^ 58 := by
    have : sz * (n % sz) ≤ 400000000 * 400000000 := Int.mul_le_mul hs' (by omega) r1 (by decide)
    have e : (2 : Int) ^ 58 = 288230376151711744 := by decide
    omega
  obtain ⟨g, i, g1, g2, g3, g4, g5, ⟨t, g6⟩, g7⟩ := iv_loop N (n := n) hs hs' 58 sz (n % sz) 0 1 0 1 r1 (by omega) hs (Int.le_refl _) big (by omega) (by omega) (by omega) (by omega) (by omega) (by omega) (by omega) (by omega) ⟨-1, by omega⟩ ⟨n / sz, by omega⟩
  have eg : g = 1 := by
    obtain ⟨u, v, huv⟩ := hc
    have d1 : g ∣ n := by rw [← r3]; exact Int.dvd_add (Int.dvd_mul_of_dvd_left g2) g3
    have d2 : g ∣ 1 := by rw [← huv]; exact Int.dvd_add (Int.dvd_mul_of_dvd_right d1) (Int.dvd_mul_of_dvd_right g2)
    have := Int.le_of_dvd (by decide) d2
    omega
  subst eg
  refine ⟨i, g4, g5, ⟨t, g6⟩, ?_⟩
  unfold f_X9_inverseBy
  rw [if_pos (by rw [l1, lI_le ⟨by decide, by decide⟩ bs]; exact hs), s_floorMod hn (by omega) bs, Option.bind_some]
  exact g7 0 N (by omega) (by omega)
theorem s_open {N : Nat} (hN : 1048576 ≤ N) {a b : Int} (hb : eb (a, b)) (h0 : (a, b) ≠ (0, 0)) : ∃ H W S : Int, bx (a, b) H W S ∧ ∀ p q r : Int64, f_X4_open N p q r (lI a) (lI b) = some (1, lI H, lI W, lI S) := by
  have hbd := eb_bd hb
  have hnb : nrm a b ≤ 300000000 := hb
  obtain ⟨g, g1, g2, g3, g4, ⟨u, v, g5⟩, g6⟩ := s_divisor hN (a := a) (b := b) ⟨by omega, by omega⟩ ⟨by omega, by omega⟩
  have hg : 1 ≤ g := by
    by_cases c : g = 0
    · subst c
      have e1 := Int.zero_dvd.mp g3
      have e2 := Int.zero_dvd.mp g4
      exact absurd (by rw [e1, e2]) h0
    · omega
  have ba : b64 a := ⟨by omega, by omega⟩
  have bb : b64 b := ⟨by omega, by omega⟩
  have bg : b64 g := ⟨by omega, by omega⟩
  have n0 : ¬ lI g = 0 := by rw [lI_0 bg]; omega
  obtain ⟨a', ea⟩ := g3
  obtain ⟨b', eb'⟩ := g4
  have da : lI a / lI g = lI a' := by rw [lI_div ba bg, Int.tdiv_eq_ediv_of_dvd ⟨a', ea⟩, ea, Int.mul_ediv_cancel_left _ (by omega)]
  have db : lI b / lI g = lI b' := by rw [lI_div bb bg, Int.tdiv_eq_ediv_of_dvd ⟨b', eb'⟩, eb', Int.mul_ediv_cancel_left _ (by omega)]
  obtain ⟨I, hI⟩ : ∃ I, I = nrm a' b' := ⟨_, rfl⟩
  have hI' : I = a' * a' - a' * b' + b' * b' := hI
  have hn : nrm a b = g * (g * I) := by rw [ea, eb', hI']; unfold nrm; grind
  have hI1 : 1 ≤ I := by
    have := nrm_nn a' b'
    by_cases c : I = 0
    · have h1 := en_pos h0
      have h2 : en (a, b) = nrm a b := rfl
      rw [hn, c, Int.mul_zero, Int.mul_zero] at h2
      omega
    · omega
  have hgI : g * I ≤ 300000000 := by
    have h1 : 1 * (g * I) ≤ g * (g * I) := Int.mul_le_mul_of_nonneg_right hg (Int.mul_nonneg (by omega) (by omega))
    omega
  have hI2 : I ≤ 300000000 := by
    have h1 : 1 * I ≤ g * I := Int.mul_le_mul_of_nonneg_right hg (by omega)
    omega
  have huv : u * a' + v * b' = 1 := by
    have : g * (u * a' + v * b') = g * 1 := by rw [Int.mul_one]; rw [ea, eb'] at g5; grind
    exact Int.eq_of_mul_eq_mul_left (by omega) this
  have a'b : -20000 ≤ a' ∧ a' ≤ 20000 := by
    have h1 : (1 : Int) ≤ g := hg
    by_cases c : 0 ≤ a'
    · have := Int.mul_le_mul_of_nonneg_right hg c
      omega
    · have := Int.mul_le_mul_of_nonneg_right hg (show 0 ≤ -a' by omega)
      have e := Int.mul_neg g a'
      omega
  have b'b : -20000 ≤ b' ∧ b' ≤ 20000 := by
    by_cases c : 0 ≤ b'
    · have := Int.mul_le_mul_of_nonneg_right hg c
      omega
    · have := Int.mul_le_mul_of_nonneg_right hg (show 0 ≤ -b' by omega)
      have e := Int.mul_neg g b'
      omega
  obtain ⟨i, i1, i2, ⟨t, i3⟩, i4⟩ := s_inverseBy hN (sz := I) (n := b') hI1 (by omega) ⟨by omega, by omega⟩ ⟨u * u * (a' - b') + 2 * u * v * a' + v * v * b', u * u, by rw [hI']; grind⟩
  have bai : b64 (a' * i) := by
    have := mul_bd (show -20000 ≤ a' by omega) (show a' ≤ 20000 by omega) (show -300000000 ≤ i by omega) (show i ≤ 300000000 by omega)
    exact ⟨by omega, by omega⟩
  have bI : b64 I := ⟨by omega, by omega⟩
  have m1 := Int.emod_nonneg (a' * i) (show I ≠ 0 by omega)
  have m2 := Int.emod_lt_of_pos (a' * i) (show 0 < I by omega)
  have m3 := Int.emod_def (a' * i) I
  have hS : ed (a, b) (g * (a' * i % I), g) := by
    refine ⟨esb (i, 0) (em (a' - b', -b') (a' * i / I, t)), ?_⟩
    rw [m3, ea, eb']
    exact slant_aux hI' i3
  refine ⟨g, g * I, g * (a' * i % I), bx_mk hg ⟨a', ea⟩ ⟨b', eb'⟩ hn.symm hS (Int.mul_nonneg (by omega) m1) (Int.mul_lt_mul_of_pos_left m2 (by omega)), fun p q r => ?_⟩
  have einner : (lI a' * lI a' - lI a' * lI b' + lI b' * lI b') = lI I := by rw [lI_mul, lI_mul, lI_mul, lI_sub, lI_add, hI']
  unfold f_X4_open
  rw [g6, Option.bind_some, if_pos (by rw [l1, lI_le ⟨by decide, by decide⟩ bg]; exact hg), if_neg n0, if_neg n0, da, db, einner, if_pos (by rw [l1, lI_le ⟨by decide, by decide⟩ bI]; exact hI1), i4, Option.bind_some, lI_mul, s_floorMod bai (by omega) bI, Option.bind_some, lI_mul, lI_mul]
theorem s_open0 {N : Nat} (hN : 1048576 ≤ N) (p q r : Int64) : f_X4_open N p q r (lI 0) (lI 0) = some (0, p, q, r) := by
  have : f_X9_divisor N (lI 0) (lI 0) = some (lI 0) := by
    obtain ⟨M, rfl⟩ : ∃ M, N = M + 1 := ⟨N - 1, by omega⟩
    rfl
  unfold f_X4_open
  rw [this, Option.bind_some, if_neg (by decide)]
theorem lb_loop (N : Nat) {a b : Int} (hb : eb (a, b)) (h0 : (a, b) ≠ (0, 0)) : ∀ (j : Nat) (x y u v s t : Int), y.natAbs ≤ j → x.natAbs ≤ 40000 → y.natAbs ≤ 40000 → u.natAbs ≤ 40000 → v.natAbs ≤ 40000 → s.natAbs ≤ 40000 → t.natAbs ≤ 40000 → s.natAbs * x.natAbs + u.natAbs * y.natAbs ≤ 40000 → t.natAbs * x.natAbs + v.natAbs * y.natAbs ≤ 40000 → x = u * b + v * (a - b) → y = s * b + t * (a - b) → (∀ d : Int, d ∣ x → d ∣ y → d ∣ b ∧ d ∣ (a - b)) → ∃ H W S : Int, bx (a, b) H W S ∧ ∀ k : Nat, j < k → f_X11_laysBox_20 N k (lI a) (lI b) (lI x) (lI y) (lI u) (lI v) (lI s) (lI t) = some (lI W, lI H, lI S) := by
  have hbd := eb_bd hb
  have hnb : nrm a b ≤ 300000000 := hb
  have fin : ∀ (x u v s t : Int), x.natAbs ≤ 40000 → u.natAbs ≤ 40000 → v.natAbs ≤ 40000 → x = u * b + v * (a - b) → (∀ d : Int, d ∣ x → d ∣ 0 → d ∣ b ∧ d ∣ (a - b)) → ∃ H W S : Int, bx (a, b) H W S ∧ ∀ k : Nat, 0 < k → f_X11_laysBox_20 N k (lI a) (lI b) (lI x) (lI 0) (lI u) (lI v) (lI s) (lI t) = some (lI W, lI H, lI S) := by
    intro x u v s t h1 h2 h3 h4 h5
    obtain ⟨d1, d2⟩ := h5 x (Int.dvd_refl _) (Int.dvd_zero _)
    have d3 : x ∣ a := by
      have := Int.dvd_add d1 d2
      have e : b + (a - b) = a := by omega
      rwa [e] at this
    have x0 : x ≠ 0 := by
      intro z
      subst z
      exact h0 (by rw [Int.zero_dvd.mp d3, Int.zero_dvd.mp d1])
    obtain ⟨g, hg⟩ : ∃ g, g = (x.natAbs : Int) := ⟨_, rfl⟩
    have g1 : 1 ≤ g := by omega
    have da : g ∣ a := by rw [hg]; exact Int.natAbs_dvd.mpr d3
    have db : g ∣ b := by rw [hg]; exact Int.natAbs_dvd.mpr d1
    have dn : g ∣ nrm a b := by
      unfold nrm
      exact Int.dvd_add (Int.dvd_sub (Int.dvd_mul_of_dvd_left da) (Int.dvd_mul_of_dvd_left da)) (Int.dvd_mul_of_dvd_left db)
    obtain ⟨W, hW⟩ := dn
    have hp : 1 ≤ nrm a b := en_pos h0
    have hW1 : 1 ≤ W := by
      by_cases c : 1 ≤ W
      · exact c
      · have := Int.mul_le_mul_of_nonneg_left (show W ≤ 0 by omega) (show 0 ≤ g by omega)
        omega
    have hW2 : W ≤ 300000000 := by
      have := Int.mul_le_mul_of_nonneg_right g1 (show 0 ≤ W by omega)
      omega
    have bW : b64 W := ⟨by omega, by omega⟩
    have bg : b64 g := ⟨by omega, by omega⟩
    have bn : b64 (nrm a b) := ⟨by omega, by omega⟩
    have bx' : b64 x := ⟨by omega, by omega⟩
    have n0 : ¬ lI g = 0 := by rw [lI_0 bg]; omega
    have ediv : lI (nrm a b) / lI g = lI W := by rw [lI_div bn bg, Int.tdiv_eq_ediv_of_dvd ⟨W, hW⟩, hW, Int.mul_ediv_cancel_left _ (by omega)]
    have hWd := ed_W g1 da db hW.symm
    have fin2 : ∀ u' v' : Int, -40000 ≤ u' → u' ≤ 40000 → -40000 ≤ v' → v' ≤ 40000 → g = u' * b + v' * (a - b) → ∃ S : Int, bx (a, b) g W S ∧ f_X11_laysBox_146 N (lI a) (lI b) (lI u') (lI v') (lI W) (lI g) = some (lI W, lI g, lI S) := by
      intro u' v' p1 p2 p3 p4 p5
      have m1 := Int.emod_nonneg (a * u' - b * v') (show W ≠ 0 by omega)
      have m2 := Int.emod_lt_of_pos (a * u' - b * v') (show 0 < W by omega)
      have m3 := Int.emod_def (a * u' - b * v') W
      have k1 := mul_bd hbd.1.1 hbd.1.2 p1 p2
      have k2 := mul_bd hbd.2.1 hbd.2.2 p3 p4
      refine ⟨(a * u' - b * v') % W, bx_mk g1 da db hW.symm ?_ m1 m2, ?_⟩
      · have e : ((a * u' - b * v') % W, g) = esb (em (a, b) (u', v')) (em (W, 0) ((a * u' - b * v') / W, 0)) := by
          rw [m3]; unfold esb em
          refine e_ext ?_ ?_
          · simp only []; grind
          · simp only []; grind
        rw [e]; exact ed_sub (ed_mul _ _) (ed_mulr hWd _)
      · unfold f_X11_laysBox_146
        rw [lI_mul, lI_mul, lI_sub, s_rest ⟨by omega, by omega⟩ (by omega) bW, Option.bind_some]
    have ww : f_X11_without (lI x) = some (lI g) := by rw [s_without bx', hg]
    by_cases c : 0 ≤ x
    · obtain ⟨S, hS, hf⟩ := fin2 u v (by omega) (by omega) (by omega) (by omega) (by omega)
      refine ⟨g, W, S, hS, fun k hk => ?_⟩
      obtain ⟨k, rfl⟩ : ∃ k', k = k' + 1 := ⟨k - 1, by omega⟩
      have cx : (0 : Int64) ≤ lI x := (lI_0le bx').mpr c
      rw [f_X11_laysBox_20, if_pos lz, ww, Option.bind_some, s_normX, Option.bind_some, if_neg n0, if_pos cx, if_pos cx, ediv]
      exact hf
    · obtain ⟨S, hS, hf⟩ := fin2 (-u) (-v) (by omega) (by omega) (by omega) (by omega) (by rw [Int.neg_mul, Int.neg_mul]; omega)
      refine ⟨g, W, S, hS, fun k hk => ?_⟩
      obtain ⟨k, rfl⟩ : ∃ k', k = k' + 1 := ⟨k - 1, by omega⟩
      have cx : ¬ (0 : Int64) ≤ lI x := fun z => c ((lI_0le bx').mp z)
      rw [f_X11_laysBox_20, if_pos lz, ww, Option.bind_some, s_normX, Option.bind_some, if_neg n0, if_neg cx, if_neg cx, ediv, lI_neg, lI_neg]
      exact hf
  intro j
  induction j with
  | zero =>
    intro x y u v s t h1 h2 h3 h4 h5 h6 h7 h8 h9 h10 h11 h12
    obtain rfl : y = 0 := by omega
    obtain ⟨H, W, S, k1, k2⟩ := fin x u v s t h2 h4 h5 h10 h12
    exact ⟨H, W, S, k1, fun k hk => k2 k (by omega)⟩
  | succ j ih =>
    intro x y u v s t h1 h2 h3 h4 h5 h6 h7 h8 h9 h10 h11 h12
    by_cases cy : y = 0
    · subst cy
      obtain ⟨H, W, S, k1, k2⟩ := fin x u v s t h2 h4 h5 h10 h12
      exact ⟨H, W, S, k1, fun k hk => k2 k (by omega)⟩
    · have hy : 1 ≤ y.natAbs := by omega
      have er : (x.tmod y).natAbs = x.natAbs % y.natAbs := Int.natAbs_tmod x y
      have eq : (x.tdiv y).natAbs = x.natAbs / y.natAbs := Int.natAbs_tdiv x y
      have e0 := Int.mul_tdiv_add_tmod x y
      have e1 : (x.tdiv y).natAbs * y.natAbs + (x.tmod y).natAbs = x.natAbs := by
        rw [er, eq, Nat.mul_comm]; exact Nat.div_add_mod _ _
      have e2 : (x.tmod y).natAbs < y.natAbs := by rw [er]; exact Nat.mod_lt _ (by omega)
      have bound : ∀ p r : Int, r.natAbs * x.natAbs + p.natAbs * y.natAbs ≤ 40000 → (p - x.tdiv y * r).natAbs * y.natAbs + r.natAbs * (x.tmod y).natAbs ≤ 40000 ∧ (p - x.tdiv y * r).natAbs ≤ 40000 := by
        intro p r hpr
        have f1 : (p - x.tdiv y * r).natAbs ≤ p.natAbs + (x.tdiv y).natAbs * r.natAbs := by
          have := Int.natAbs_sub_le p (x.tdiv y * r)
          rwa [Int.natAbs_mul] at this
        have f2 := Nat.mul_le_mul_right y.natAbs f1
        have f3 : (p.natAbs + (x.tdiv y).natAbs * r.natAbs) * y.natAbs + r.natAbs * (x.tmod y).natAbs = r.natAbs * x.natAbs + p.natAbs * y.natAbs := by
          rw [← e1]; grind
        have f4 : (p - x.tdiv y * r).natAbs * y.natAbs + r.natAbs * (x.tmod y).natAbs ≤ 40000 := by omega
        have f5 : (p - x.tdiv y * r).natAbs * 1 ≤ (p - x.tdiv y * r).natAbs * y.natAbs := Nat.mul_le_mul_left _ hy
        exact ⟨f4, by omega⟩
      obtain ⟨n1, n2⟩ := bound u s h8
      obtain ⟨n3, n4⟩ := bound v t h9
      obtain ⟨H, W, S, k1, k2⟩ := ih y (x.tmod y) s t (u - x.tdiv y * s) (v - x.tdiv y * t) (by omega) h3 (by omega) h6 h7 n2 n4 n1 n3 h11 (by
        have : x.tmod y = x - y * x.tdiv y := by omega
        rw [this]; grind) (fun d hd1 hd2 => h12 d (by
          have e : x = y * x.tdiv y + x.tmod y := e0.symm
          rw [e]; exact Int.dvd_add (Int.dvd_mul_of_dvd_left hd1) hd2) hd1)
      refine ⟨H, W, S, k1, fun k hk => ?_⟩
      obtain ⟨k, rfl⟩ : ∃ k', k = k' + 1 := ⟨k - 1, by omega⟩
      have b1 : b64 x := ⟨by omega, by omega⟩
      have b2 : b64 y := ⟨by omega, by omega⟩
      have n0 : ¬ lI y = 0 := by rw [lI_0 b2]; exact cy
      rw [f_X11_laysBox_20, if_neg n0, if_neg n0, lI_rem b1 b2, lI_div b1 b2, lI_mul, lI_mul, lI_sub, lI_sub]
      exact k2 k (by omega)
theorem s_box {N : Nat} (hN : 1048576 ≤ N) {a b : Int} (hb : eb (a, b)) (h0 : (a, b) ≠ (0, 0)) : ∃ H W S : Int, bx (a, b) H W S ∧ (∀ p q r : Int64, f_X4_open N p q r (lI a) (lI b) = some (1, lI H, lI W, lI S)) ∧ f_X11_laysBox N (lI a) (lI b) = some (lI W, lI H, lI S) := by
  have hbd := eb_bd hb
  obtain ⟨H, W, S, h1, h2⟩ := s_open hN hb h0
  obtain ⟨H', W', S', k1, k2⟩ := lb_loop N hb h0 40000 b (a - b) 1 0 0 1 (by omega) (by omega) (by omega) (by omega) (by omega) (by omega) (by omega) (by show 0 * b.natAbs + 1 * (a - b).natAbs ≤ 40000; omega) (by show 1 * b.natAbs + 0 * (a - b).natAbs ≤ 40000; omega) (by omega) (by omega) (fun d p q => ⟨p, q⟩)
  obtain ⟨rfl, rfl, rfl⟩ := bx_uniq h1 k1
  refine ⟨H, W, S, h1, h2, ?_⟩
  unfold f_X11_laysBox
  rw [lI_sub]
  exact k2 N (by omega)
