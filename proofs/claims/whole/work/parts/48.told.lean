/-! ===== prime or not; told, direct ===== -/
theorem en_fac {L : List (Int × Int)} {t u : Nat} {n : Int × Int} (h : eit u (em (epr L) (e3 t)) = n) : en n = en (epr L) * ((3 ^ t : Nat) : Int) := by
  rw [← h, en_eit, en_em, en_e3]
theorem pn_iff {L : List (Int × Int)} (hL : ∀ y, y ∈ L → gp y) {t n k : Nat} (hn : 2 ≤ n) (e : (n : Int) = en (epr L) * ((3 ^ t : Nat) : Int)) (hk : isLp n k) : t + L.length = 1 ↔ (k = n ∨ (k * k = n ∧ k % 3 = 2)) := by
  obtain ⟨P, hP⟩ := en_nat (epr L)
  have e' : n = P * 3 ^ t := by
    rw [hP, ← Int.natCast_mul] at e
    exact Int.ofNat.inj e
  have k2 := hk.1
  have krp := lp_rp hk
  have big : ∀ a b : Nat, 2 ≤ a → 2 ≤ b → n = a * b → k ≠ n := by
    intro a b ha hb hab z
    have : k ≤ a := hk.2.2 a ha ⟨b, hab⟩
    have h2 : a * 2 ≤ a * b := Nat.mul_le_mul_left a hb
    omega
  have pos3 : 0 < 3 ^ t := Nat.pow_pos (by decide)
  constructor
  · intro h
    cases L with
    | nil =>
      have t1 : t = 1 := by simp at h; exact h
      subst t1
      have P1 : P = 1 := by
        have : en (epr []) = 1 := rfl
        rw [this] at hP
        omega
      subst P1
      left
      have n3 : n = 3 := by omega
      have l := Nat.le_of_dvd (by omega) hk.2.1
      obtain ⟨m, hm⟩ := hk.2.1
      have : k = 2 ∨ k = 3 := by omega
      rcases this with z | z
      · subst z; omega
      · omega
    | cons x M =>
      have hM : M = [] := by
        cases M with
        | nil => rfl
        | cons y M => simp at h; omega
      subst hM
      have t0 : t = 0 := by simp at h; exact h
      subst t0
      have ex : en x = n := by
        have : en (epr [x]) = en x := by show en (em x (1, 0)) = en x; rw [em_one']
        rw [this] at hP
        simp at e'
        omega
      rcases (hL x List.mem_cons_self).2 with ⟨q, q1, q2, q3⟩ | ⟨p, p1, p2, p3⟩
      · right
        have nq : n = q * q := by
          rw [q3, en_q] at ex
          have : ((q * q : Nat) : Int) = (n : Int) := by rw [Int.natCast_mul]; exact ex
          omega
        have kq : k = q := by
          have d : k ∣ q * q := by rw [← nq]; exact hk.2.1
          rcases rp_mul krp d with z | z
          · rcases q1.2 k z with y | y
            · omega
            · exact y
          · rcases q1.2 k z with y | y
            · omega
            · exact y
        rw [kq]; exact ⟨nq.symm, q2⟩
      · left
        have : n = p := by omega
        rw [← this] at p1
        exact (lp_iff hk (by omega)).mp p1
  · intro h
    by_cases c : t + L.length = 1
    · exact c
    · exfalso
      cases L with
      | nil =>
        have P1 : P = 1 := by
          have : en (epr []) = 1 := rfl
          rw [this] at hP
          omega
        subst P1
        simp at c
        cases t with
        | zero => simp at e'; omega
        | succ t =>
          have t1 : 1 ≤ t := by omega
          have e3 : n = 3 * 3 ^ t := by rw [e', Nat.one_mul, Nat.pow_succ, Nat.mul_comm]
          have g3 : 3 ^ 1 ≤ 3 ^ t := Nat.pow_le_pow_right (by decide) t1
          rcases h with z | ⟨z1, z2⟩
          · exact big 3 (3 ^ t) (by omega) (by omega) e3 z
          · have : k ∣ 3 * 3 ^ t := by rw [← e3]; exact hk.2.1
            have d3 : 3 ∣ k * k := by rw [z1, e3]; exact ⟨_, rfl⟩
            have : (k * k) % 3 = 1 := by rw [Nat.mul_mod, z2]
            omega
      | cons x M =>
        have gx := hL x List.mem_cons_self
        have x4 := gp_4 gx
        obtain ⟨a, ha⟩ := en_nat x
        obtain ⟨b, hb⟩ := en_nat (epr M)
        have hab : P = a * b := by
          have : en (epr (x :: M)) = en x * en (epr M) := en_em _ _
          rw [this, ha, hb] at hP
          have : ((a * b : Nat) : Int) = (P : Int) := by rw [Int.natCast_mul]; exact hP
          omega
        have n2 : n = a * (b * 3 ^ t) := by rw [e', hab, Nat.mul_assoc]
        have r2 : 2 ≤ b * 3 ^ t := by
          by_cases ct : t = 0
          · subst ct
            cases M with
            | nil => simp at c
            | cons y M =>
              have gy := hL y (List.mem_cons_of_mem _ List.mem_cons_self)
              have h4 := epr_len (y :: M) (fun z hz => hL z (List.mem_cons_of_mem _ hz))
              have : 4 ^ 1 ≤ 4 ^ (y :: M).length := Nat.pow_le_pow_right (by decide) (by simp)
              rw [hb] at h4
              simp only [Nat.pow_zero, Nat.mul_one]
              omega
          · have g3 : 3 ^ 1 ≤ 3 ^ t := Nat.pow_le_pow_right (by decide) (by omega)
            have b1 : 1 ≤ b := by
              have h4 := epr_len M (fun z hz => hL z (List.mem_cons_of_mem _ hz))
              have : 0 < 4 ^ M.length := Nat.pow_pos (by decide)
              rw [hb] at h4
              omega
            have := Nat.mul_le_mul b1 g3
            omega
        rcases h with z | ⟨z1, z2⟩
        · exact big a _ (by omega) r2 n2 z
        · -- the norm of one would be that least part, or all
          have am : a % 3 ≠ 2 := by have := en_n2 x; omega
          have hkk : k * k = a * (b * 3 ^ t) := by rw [z1, n2]
          have key : ∀ a b : Nat, k * k = a * b → 2 ≤ a → 2 ≤ b → a = k := by
            intro a b e ha hb
            rcases rp_mul krp (show k ∣ a * b from ⟨k, e.symm⟩) with ⟨c, hc⟩ | ⟨c, hc⟩
            · have e2 : k = c * b := by
                have : k * k = k * (c * b) := by rw [e, hc, Nat.mul_assoc]
                exact Nat.eq_of_mul_eq_mul_left (by omega) this
              rcases krp.2 b ⟨c, by rw [e2, Nat.mul_comm]⟩ with y | y
              · omega
              · have : c = 1 := by
                  rw [← y] at e2
                  have c0 : c ≠ 0 := fun z => by rw [z, Nat.zero_mul] at e2; omega
                  have : 1 * b = c * b := by omega
                  exact (Nat.eq_of_mul_eq_mul_right (by omega) this).symm
                rw [hc, this, Nat.mul_one]
            · have e2 : k = c * a := by
                have : k * k = k * (c * a) := by rw [e, hc, Nat.mul_comm a, Nat.mul_assoc]
                exact Nat.eq_of_mul_eq_mul_left (by omega) this
              rcases krp.2 a ⟨c, by rw [e2, Nat.mul_comm]⟩ with y | y
              · omega
              · exact y
          have := key a _ hkk (by omega) r2
          omega
theorem s_ipn {N : Nat} (hN : 1048576 ≤ N) {a b : Int} (hn : kNum a b) : ∃ v : Int32, (v = 0 ∨ (v = 1 ∧ (a, b) ≠ (0, 0))) ∧ f_X11_isPrime N (lI a) (lI b) = some v ∧ ∀ (m1 m2 m3 : Int32) (A B nn : Nat → Int64) (c : Int32) (z1 z2 z3 z4 z5 z6 z7 z8 z9 z10 z11 z12 z13 z14 : Int64) (z15 z16 : Nat → Int64) (la lb fa fb pa pb : Int64), ∃ y, f_X10_isPrimeNumber N m1 m2 m3 A B nn c z1 z2 z3 z4 z5 z6 z7 z8 z9 z10 z11 z12 z13 z14 z15 z16 la lb fa fb pa pb (lI a) (lI b) = some (v, y) := by
  have hx := hn.eb
  have hx' : nrm a b ≤ 300000000 := hx
  by_cases c0 : a = 0 ∧ b = 0
  · refine ⟨0, Or.inl rfl, ?_, ?_⟩
    · obtain ⟨rfl, rfl⟩ := c0
      unfold f_X11_isPrime
      rw [s_normOf, Option.bind_some, if_neg (by decide)]
    · intro m1 m2 m3 A B nn c z1 z2 z3 z4 z5 z6 z7 z8 z9 z10 z11 z12 z13 z14 z15 z16 la lb fa fb pa pb
      unfold f_X10_isPrimeNumber
      rw [s_isNought hn.b64.1 hn.b64.2, Option.bind_some, if_pos c0, if_neg j1]
      exact ⟨_, rfl⟩
  · have h0 := ne00 c0
    obtain ⟨L, t, u, s1, s2, s3, s4, s5, s6, C, -⟩ := s_fac2 hN hn h0
    have p1 : 1 ≤ nrm a b := en_pos h0
    obtain ⟨n, hnn⟩ := en_nat (a, b)
    have hnn' : nrm a b = n := hnn
    have ef := en_fac s6
    rw [hnn] at ef
    have cls : ∀ v : Int32, (v = if t + L.length = 1 then 1 else 0) → ∀ (m1 m2 m3 : Int32) (A B nn : Nat → Int64) (c : Int32) (z1 z2 z3 z4 z5 z6 z7 z8 z9 z10 z11 z12 z13 z14 : Int64) (z15 z16 : Nat → Int64) (la lb fa fb pa pb : Int64), ∃ y, f_X10_isPrimeNumber N m1 m2 m3 A B nn c z1 z2 z3 z4 z5 z6 z7 z8 z9 z10 z11 z12 z13 z14 z15 z16 la lb fa fb pa pb (lI a) (lI b) = some (v, y) := by
      intro v hv m1 m2 m3 A B nn c z1 z2 z3 z4 z5 z6 z7 z8 z9 z10 z11 z12 z13 z14 z15 z16 la lb fa fb pa pb
      obtain ⟨A', B', n', z, r1, e2⟩ := C A B nn c z1 z2 z3 z4 z5 z6 z7 z8 z9 z10 z11 z12 z13 z14 z15 z16 fa fb pa pb
      unfold f_X10_isPrimeNumber f_X2_total
      rw [s_isNought hn.b64.1 hn.b64.2, Option.bind_some, if_neg c0, if_pos rfl, e2, Option.bind_some, Option.bind_some]
      simp only []
      rw [nI_add]
      by_cases ct : t + L.length = 1
      · rw [hv, if_pos ct, if_pos (by rw [ct]; rfl)]
        exact ⟨_, rfl⟩
      · have : ¬ nI (t + L.length) = 1 := by
          intro z
          exact ct ((nI_eq (show t + L.length < 2 ^ 31 by omega) (show 1 < 2 ^ 31 by decide)).mp z)
        rw [hv, if_neg ct, if_neg this]
        exact ⟨_, rfl⟩
    refine ⟨if t + L.length = 1 then 1 else 0, ?_, ?_, cls _ rfl⟩
    · by_cases ct : t + L.length = 1
      · rw [if_pos ct]; exact Or.inr ⟨rfl, h0⟩
      · rw [if_neg ct]; exact Or.inl rfl
    · unfold f_X11_isPrime
      rw [s_normOf, Option.bind_some, hnn']
      by_cases n2 : 2 ≤ n
      · obtain ⟨k, hk⟩ := lp_ex n2
        have kl := Nat.le_of_dvd (by omega) hk.2.1
        have iff := pn_iff s1.2 n2 ef hk
        have h2 : (2 : Int32) ≤ iI (n : Int) := (iI_le (a := 2) (b := (n : Int)) ⟨by decide, by decide⟩ ⟨by omega, by omega⟩).mpr (by omega)
        rw [if_pos h2, s_lp hN n2 (by omega) hk, Option.bind_some]
        by_cases ck : k = n
        · rw [if_pos (show iI (k : Int) = iI (n : Int) by rw [ck]), if_pos (iff.mpr (Or.inl ck))]
        · have ne : ¬ iI (k : Int) = iI (n : Int) := by rw [iI_eq ⟨by omega, by omega⟩ ⟨by omega, by omega⟩]; omega
          have kk := lp_sq (by omega) hk
          have kk' : k * k ≤ n := by
            rcases kk with z | z
            · exact absurd z ck
            · exact z
          have k4 : k ≤ 40000 := by
            by_cases c4 : k ≤ 40000
            · exact c4
            · have := Nat.mul_le_mul (show 40001 ≤ k by omega) (show 40001 ≤ k by omega); omega
          have m2 : (iI (k : Int) - iI (k : Int) / 3 * 3 = 2) ↔ k % 3 = 2 := i_mod3 (n := k) (by omega) 2 (by decide)
          rw [if_neg ne]
          by_cases cs : k * k = n
          · rw [if_pos ((i_sqeq k4 (by omega)).mpr cs)]
            by_cases c3 : k % 3 = 2
            · rw [if_pos (m2.mpr c3), if_pos (iff.mpr (Or.inr ⟨cs, c3⟩))]
            · rw [if_neg (fun z => c3 (m2.mp z)), if_neg (fun z => by
                rcases iff.mp z with y | y
                · exact ck y
                · exact c3 y.2)]
          · rw [if_neg (fun z => cs ((i_sqeq k4 (by omega)).mp z)), if_neg (fun z => by
              rcases iff.mp z with y | y
              · exact ck y
              · exact cs y.1)]
      · have n1 : n = 1 := by omega
        have nl : ¬ (2 : Int32) ≤ iI (n : Int) := by rw [n1]; decide
        rw [if_neg nl, if_neg]
        intro z
        have h4 := epr_len L s1.2
        have e1 : (1 : Int) = en (epr L) * ((3 ^ t : Nat) : Int) := by rw [← ef, n1]; rfl
        have q1 : (1 : Int) ≤ ((3 ^ t : Nat) : Int) := by have : 0 < 3 ^ t := Nat.pow_pos (by decide); omega
        have q2 : (1 : Int) ≤ ((4 ^ L.length : Nat) : Int) := by have : 0 < 4 ^ L.length := Nat.pow_pos (by decide); omega
        by_cases ct : t = 0
        · have l1 : L.length = 1 := by omega
          rw [l1] at h4
          rw [ct] at e1
          simp at e1
          omega
        · have t1 : t = 1 := by omega
          have l0' : L.length = 0 := by omega
          rw [t1] at e1
          simp at e1
          omega
theorem un_loop (N : Nat) {n : Int × Int} (hn : b64 n.1 ∧ b64 n.2) {u : Nat} (hu : u < 6) (h1 : eit u (1, 0) = n) (h2 : ∀ j, j < u → eit j (1, 0) ≠ n) : ∀ (j k : Nat), k + j = u → ∀ f : Nat, j < f → f_X5_unitNumber_16 N f (lI (eit k (1, 0)).1) (lI (eit k (1, 0)).2) (nI k) (lI n.1) (lI n.2) = some (nI u) := by
  have bk : ∀ k, b64 (eit k (1, 0)).1 ∧ b64 (eit k (1, 0)).2 := fun k => en_64 (en_eit k (1, 0)) (by unfold eb; rw [en_one]; decide)
  intro j
  induction j with
  | zero =>
    intro k hk f hf
    obtain ⟨f, rfl⟩ : ∃ f', f = f' + 1 := ⟨f - 1, by omega⟩
    obtain rfl : k = u := by omega
    unfold f_X5_unitNumber_16 f_X5_isSame_
    rw [if_neg (nl6 hu), h1, if_pos rfl, if_pos rfl, Option.bind_some, if_neg j1]
  | succ j ih =>
    intro k hk f hf
    obtain ⟨f, rfl⟩ : ∃ f', f = f' + 1 := ⟨f - 1, by omega⟩
    have sm : f_X5_isSame_ (lI (eit k (1, 0)).1) (lI (eit k (1, 0)).2) (lI n.1) (lI n.2) = some 0 := by
      unfold f_X5_isSame_
      by_cases c1 : lI n.1 = lI (eit k (1, 0)).1
      · have c2 : ¬ lI n.2 = lI (eit k (1, 0)).2 := by
          intro z
          exact h2 k (by omega) (e_ext ((lI_eq hn.1 (bk k).1).mp c1).symm ((lI_eq hn.2 (bk k).2).mp z).symm)
        rw [if_pos c1, if_neg c2]
      · rw [if_neg c1]
    have e : eit (k + 1) (1, 0) = ((eit k (1, 0)).1 - (eit k (1, 0)).2, (eit k (1, 0)).1) := by rw [eit_succ]; exact em_u _ _
    have I := ih (k + 1) (by omega) f (by omega)
    rw [e] at I
    rw [f_X5_unitNumber_16, if_neg (nl6 (by omega)), sm, Option.bind_some, if_pos rfl, lI_sub, nI_1]
    exact I
theorem s_unitNo {N : Nat} (hN : 1048576 ≤ N) {a b : Int} (hn : eb (a, b)) : ∃ v : Int32, f_X5_unitNumber N (lI a) (lI b) = some v ∧ f_X11_unitOf (lI a) (lI b) = some v := by
  have hb : nrm a b ≤ 300000000 := hn
  have n0 := nrm_nn a b
  unfold f_X5_unitNumber f_X5_isUnit
  by_cases c : nrm a b = 1
  · have one : f_X5_norm (lI a) (lI b) = some 1 := by rw [s_norm, c]; rfl
    rw [one, Option.bind_some, if_pos rfl, Option.bind_some, if_neg j1]
    have go : ∀ (x : Int × Int) (u : Nat), u < 6 → eit u (1, 0) = x → (∀ j, j < u → eit j (1, 0) ≠ x) → b64 x.1 ∧ b64 x.2 → f_X5_unitNumber_16 N N 1 0 0 (lI x.1) (lI x.2) = some (nI u) := fun x u hu h1 h2 h3 => un_loop N h3 hu h1 h2 u 0 (by omega) N (by omega)
    have bb : ∀ x : Int, -1 ≤ x → x ≤ 1 → b64 x := fun x h1 h2 => ⟨by omega, by omega⟩
    rcases en_1 (x := (a, b)) c with z | z | z | z | z | z
    · obtain ⟨rfl, rfl⟩ := Prod.mk.inj z
      exact ⟨0, go (1, 0) 0 (by decide) (by decide) (by decide) ⟨bb _ (by decide) (by decide), bb _ (by decide) (by decide)⟩, by decide⟩
    · obtain ⟨rfl, rfl⟩ := Prod.mk.inj z
      exact ⟨1, go (1, 1) 1 (by decide) (by decide) (by decide) ⟨bb _ (by decide) (by decide), bb _ (by decide) (by decide)⟩, by decide⟩
    · obtain ⟨rfl, rfl⟩ := Prod.mk.inj z
      exact ⟨2, go (0, 1) 2 (by decide) (by decide) (by decide) ⟨bb _ (by decide) (by decide), bb _ (by decide) (by decide)⟩, by decide⟩
    · obtain ⟨rfl, rfl⟩ := Prod.mk.inj z
      exact ⟨3, go (-1, 0) 3 (by decide) (by decide) (by decide) ⟨bb _ (by decide) (by decide), bb _ (by decide) (by decide)⟩, by decide⟩
    · obtain ⟨rfl, rfl⟩ := Prod.mk.inj z
      exact ⟨4, go (-1, -1) 4 (by decide) (by decide) (by decide) ⟨bb _ (by decide) (by decide), bb _ (by decide) (by decide)⟩, by decide⟩
    · obtain ⟨rfl, rfl⟩ := Prod.mk.inj z
      exact ⟨5, go (0, -1) 5 (by decide) (by decide) (by decide) ⟨bb _ (by decide) (by decide), bb _ (by decide) (by decide)⟩, by decide⟩
  · have ne : ¬ lI (nrm a b) = 1 := by rw [l1, lI_eq ⟨by omega, by omega⟩ ⟨by decide, by decide⟩]; exact c
    refine ⟨-1, ?_, ?_⟩
    · rw [s_norm, Option.bind_some, if_neg ne, Option.bind_some, if_pos rfl]
    · unfold f_X11_unitOf
      rw [s_normX, Option.bind_some, if_neg ne]
theorem q_told (N : Nat) (hN : 1048576 ≤ N) (v1 v2 : Int32) (m_drawers_full m_drawers_kept : Int32) (m_drawers_partA m_drawers_partB m_drawers_keptA m_drawers_keptB m_drawers_keptFull : Nat → Int32) (m_tape_size : Int32) (m_tape_bytes : Nat → Int32) (m_factors_count m_factors_threes m_factors_unit : Int32) (m_factors_primeA m_factors_primeB m_factors_norms : Nat → Int64) (m_factors_euclid_count : Int32) (m_factors_euclid_last_a m_factors_euclid_last_b m_factors_euclid_lastOfFirst_a m_factors_euclid_lastOfFirst_b m_factors_euclid_lastOfSecond_a m_factors_euclid_lastOfSecond_b m_factors_euclid_next_a m_factors_euclid_next_b m_factors_euclid_nextOfFirst_a m_factors_euclid_nextOfFirst_b m_factors_euclid_nextOfSecond_a m_factors_euclid_nextOfSecond_b m_factors_euclid_q_a m_factors_euclid_q_b : Int64) (m_factors_euclid_quotientA m_factors_euclid_quotientB : Nat → Int64) (m_factors_left_a m_factors_left_b m_factors_found_a m_factors_found_b m_factors_product_a m_factors_product_b : Int64) (m_primes_count : Int32) (m_primes_primeA m_primes_primeB : Nat → Int32) (m_one_a m_one_b : Int64) (m_taped m_states : Int32) (m_ra m_rb : Int64) (m_threes m_listed : Int32) (m_tape m_has m_keptHas m_first m_second m_keptFirst m_keptSecond m_la0 m_lb0 : Nat → Int32) (hR : kR m_drawers_full m_drawers_kept m_drawers_partA m_drawers_partB m_drawers_keptA m_drawers_keptB m_drawers_keptFull m_tape_size m_tape_bytes m_primes_count m_primes_primeA m_primes_primeB m_taped m_tape m_has m_keptHas m_first m_second m_keptFirst m_keptSecond m_states m_la0 m_lb0 m_listed) : ∃ (y : Int32 × Int32 × Int32 × Int32 × (Nat → Int64) × (Nat → Int64) × (Nat → Int64) × Int32 × Int64 × Int64 × Int64 × Int64 × Int64 × Int64 × Int64 × Int64 × Int64 × Int64 × Int64 × Int64 × Int64 × Int64 × (Nat → Int64) × (Nat → Int64) × Int64 × Int64 × Int64 × Int64 × Int64 × Int64 × Int64 × Int64) (z : Int32 × Int64 × Int64 × Int32), f_X10_told N v1 v2 m_drawers_full m_drawers_partA m_drawers_partB m_factors_count m_factors_threes m_factors_unit m_factors_primeA m_factors_primeB m_factors_norms m_factors_euclid_count m_factors_euclid_last_a m_factors_euclid_last_b m_factors_euclid_lastOfFirst_a m_factors_euclid_lastOfFirst_b m_factors_euclid_lastOfSecond_a m_factors_euclid_lastOfSecond_b m_factors_euclid_next_a m_factors_euclid_next_b m_factors_euclid_nextOfFirst_a m_factors_euclid_nextOfFirst_b m_factors_euclid_nextOfSecond_a m_factors_euclid_nextOfSecond_b m_factors_euclid_q_a m_factors_euclid_q_b m_factors_euclid_quotientA m_factors_euclid_quotientB m_factors_left_a m_factors_left_b m_factors_found_a m_factors_found_b m_factors_product_a m_factors_product_b m_one_a m_one_b = some y ∧ f_X11_told N v1 v2 m_ra m_rb m_threes m_has m_first m_second = some z ∧ y.1 = z.1 ∧ kR m_drawers_full m_drawers_kept m_drawers_partA m_drawers_partB m_drawers_keptA m_drawers_keptB m_drawers_keptFull m_tape_size m_tape_bytes m_primes_count m_primes_primeA m_primes_primeB m_taped m_tape m_has m_keptHas m_first m_second m_keptFirst m_keptSecond m_states m_la0 m_lb0 m_listed := by
  have hR0 := hR
  obtain ⟨⟨dr, hD⟩, hK, hT, hP⟩ := hR
  unfold f_X10_told f_X11_told
  rcases dr_cases v1 with h1 | ⟨i, hi, rfl⟩
  · simp only [f_X0_has, (dr_out h1).1, (dr_out h1).2, Option.bind_some, z00, if_true]
    exact ⟨_, _, rfl, rfl, rfl, hR0⟩
  cases e1 : dr i with
  | none =>
    rw [s_has0 hD hi e1, Option.bind_some, if_pos rfl]
    simp only [(dr_in hi).2, hD.hasN hi e1, Option.bind_some, z10, if_false, dr_cl hi, dr_n0 hi, dr_8 hi, or_self, if_true]
    exact ⟨_, _, rfl, rfl, rfl, hR0⟩
  | some p =>
    obtain ⟨c, d⟩ := p
    obtain ⟨hn, -, -, f1, g1⟩ := hD.num hi e1
    have hx := hn.eb
    obtain ⟨w, hw, rfl⟩ := iI_of v2
    have hlt : (iI w < 0) = (w < 0) := propext (iI_lt0 hw)
    have hle : (iI w ≤ 7) = (w ≤ 7) := propext (iI_le hw (b := 7) ⟨by decide, by decide⟩)
    have ev : ∀ r : Int, b32 r → (iI w = iI r) = (w = r) := fun r hr => propext (iI_eq hw hr)
    have q0 : (iI w = 0) = (w = 0) := ev 0 ⟨by decide, by decide⟩
    have q1 : (iI w = 1) = (w = 1) := ev 1 ⟨by decide, by decide⟩
    have q2 : (iI w = 2) = (w = 2) := ev 2 ⟨by decide, by decide⟩
    have q3 : (iI w = 3) = (w = 3) := ev 3 ⟨by decide, by decide⟩
    have q4 : (iI w = 4) = (w = 4) := ev 4 ⟨by decide, by decide⟩
    have q5 : (iI w = 5) = (w = 5) := ev 5 ⟨by decide, by decide⟩
    have q6 : (iI w = 6) = (w = 6) := ev 6 ⟨by decide, by decide⟩
    have q7 : (iI w = 7) = (w = 7) := ev 7 ⟨by decide, by decide⟩
    rw [s_has1 hD hi e1, Option.bind_some, if_neg j1, s_load hD hi e1, Option.bind_some]
    simp only [(dr_in hi).2, hD.has1 hi e1, Option.bind_some, z10, if_false, dr_cl hi, dr_n0 hi, dr_8 hi, or_self, hlt, hle, q0, q1, q2, q3, q4, q5, q6, q7, f1, g1, iI_l hn.b32.1, iI_l hn.b32.2]
    by_cases cw : 0 ≤ w ∧ w ≤ 7
    · rw [if_neg (show ¬ w < 0 by omega), if_pos cw.2]
      by_cases w0 : w = 0
      · rw [if_pos w0, if_pos w0]; exact ⟨_, _, rfl, rfl, lI_i _, hR0⟩
      rw [if_neg w0, if_neg w0]
      by_cases w1 : w = 1
      · rw [if_pos w1, if_pos w1]; exact ⟨_, _, rfl, rfl, lI_i _, hR0⟩
      rw [if_neg w1, if_neg w1]
      by_cases w2 : w = 2
      · rw [if_pos w2, if_pos w2, s_norm, s_normOf, Option.bind_some, Option.bind_some]; exact ⟨_, _, rfl, rfl, lI_i _, hR0⟩
      rw [if_neg w2, if_neg w2]
      by_cases w3 : w = 3
      · rw [if_pos w3, if_pos w3, s_isOfThree (eb_sum hx), s_isThree (eb_sum hx), Option.bind_some, Option.bind_some]
        by_cases c3 : (c + d) % 3 = 0
        · rw [if_pos c3, bit01.1, Option.bind_some, if_neg j1]; exact ⟨_, _, rfl, rfl, rfl, hR0⟩
        · rw [if_neg c3, bit01.2, Option.bind_some, if_pos rfl]; exact ⟨_, _, rfl, rfl, rfl, hR0⟩
      rw [if_neg w3, if_neg w3]
      by_cases w4 : w = 4
      · rw [if_pos w4, if_pos w4, s_isPrimary hn.b64.1 hn.b64.2, s_isPrimaryX hn.b64.1 hn.b64.2, Option.bind_some, Option.bind_some]
        by_cases c3 : c % 3 = 2 ∧ d % 3 = 0
        · rw [if_pos c3, bit01.1, Option.bind_some, if_neg j1]; exact ⟨_, _, rfl, rfl, rfl, hR0⟩
        · rw [if_neg c3, bit01.2, Option.bind_some, if_pos rfl]; exact ⟨_, _, rfl, rfl, rfl, hR0⟩
      rw [if_neg w4, if_neg w4]
      by_cases w5 : w = 5
      · obtain ⟨v, hv, k1, k2⟩ := s_ipn hN hn
        obtain ⟨y, k2⟩ := k2 m_factors_count m_factors_threes m_factors_unit m_factors_primeA m_factors_primeB m_factors_norms m_factors_euclid_count m_factors_euclid_last_a m_factors_euclid_last_b m_factors_euclid_lastOfFirst_a m_factors_euclid_lastOfFirst_b m_factors_euclid_lastOfSecond_a m_factors_euclid_lastOfSecond_b m_factors_euclid_next_a m_factors_euclid_next_b m_factors_euclid_nextOfFirst_a m_factors_euclid_nextOfFirst_b m_factors_euclid_nextOfSecond_a m_factors_euclid_nextOfSecond_b m_factors_euclid_q_a m_factors_euclid_q_b m_factors_euclid_quotientA m_factors_euclid_quotientB m_factors_left_a m_factors_left_b m_factors_found_a m_factors_found_b m_factors_product_a m_factors_product_b
        rw [if_pos w5, if_pos w5, k1, k2, Option.bind_some, Option.bind_some]
        rcases hv with rfl | ⟨rfl, -⟩
        · rw [bit01.2, Option.bind_some, if_pos rfl]; exact ⟨_, _, rfl, rfl, rfl, hR0⟩
        · rw [bit01.1, Option.bind_some, if_neg j1]; exact ⟨_, _, rfl, rfl, rfl, hR0⟩
      rw [if_neg w5, if_neg w5]
      by_cases w6 : w = 6
      · obtain ⟨v, k1, k2⟩ := s_unitNo hN hx
        rw [if_pos w6, if_pos w6, k1, k2, Option.bind_some, Option.bind_some]; exact ⟨_, _, rfl, rfl, rfl, hR0⟩
      have w7 : w = 7 := by omega
      rw [if_neg w6, if_neg w6, if_pos w7, s_isNought hn.b64.1 hn.b64.2, Option.bind_some]
      unfold f_X11_oftenThree
      simp only [lI_0 hn.b64.1, lI_0 hn.b64.2]
      by_cases c0 : c = 0 ∧ d = 0
      · rw [if_pos c0, if_neg j1, if_pos c0.1, if_pos c0.2, Option.bind_some]; exact ⟨_, _, rfl, rfl, rfl, hR0⟩
      · obtain ⟨t, y, j, ht, hj, e, hy, hb, hp, k1, -, k3⟩ := s_threes hN (ne00 c0) hx
        have sk : ∀ {α : Type} {P R : Option α}, (if c = 0 then if d = 0 then R else P else P) = P := by
          intro α P R
          by_cases c1 : c = 0
          · rw [if_pos c1, if_neg (fun z => c0 ⟨c1, z⟩)]
          · rw [if_neg c1]
        have k1' : f_X5_takeOutThrees N (lI c) (lI d) = some (nI t, lI y.1, lI y.2) := k1
        have k3' : f_X11_takesThrees N (lI c) (lI d) = some (lI (eit j y).1, lI (eit j y).2, nI t) := k3
        rw [if_neg c0, if_pos rfl, sk]
        unfold f_X11_oftenThree_14
        rw [k1', k3', Option.bind_some, Option.bind_some, Option.bind_some]
        exact ⟨_, _, rfl, rfl, rfl, hR0⟩
    · have cA : ∀ {α : Type} {P R : Option α}, (if w < 0 then P else if w ≤ 7 then R else P) = P := by
        intro α P R
        by_cases c1 : w < 0
        · rw [if_pos c1]
        · rw [if_neg c1, if_neg (by omega)]
      rw [cA, if_neg (show ¬ w = 0 by omega), if_neg (show ¬ w = 1 by omega), if_neg (show ¬ w = 2 by omega), if_neg (show ¬ w = 3 by omega), if_neg (show ¬ w = 4 by omega), if_neg (show ¬ w = 5 by omega), if_neg (show ¬ w = 6 by omega), if_neg (show ¬ w = 7 by omega)]
      exact ⟨_, _, rfl, rfl, rfl, hR0⟩
