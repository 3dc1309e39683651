/-! ===== are ===== -/
theorem j1 : ¬ ((1 : Int32) = 0) := by decide
theorem jm1 : ¬ ((-1 : Int32) = 0) := by decide
theorem jm2 : ¬ ((-2 : Int32) = 0) := by decide
theorem jm3 : ¬ ((-3 : Int32) = 0) := by decide
theorem jm4 : ¬ ((-4 : Int32) = 0) := by decide
theorem s_divBy {a b c d : Int} (hx : eb (a, b)) (hy : eb (c, d)) (h0 : (c, d) ≠ (0, 0)) : (ed (c, d) (a, b) → f_X5_isDividedBy (lI a) (lI b) (lI c) (lI d) = some 1) ∧ (¬ ed (c, d) (a, b) → f_X5_isDividedBy (lI a) (lI b) (lI c) (lI d) = some 0) := by
  have hp : 1 ≤ nrm c d := en_pos h0
  have hq : nrm c d ≤ 300000000 := hy
  have hnn : b64 (nrm c d) := ⟨by omega, by omega⟩
  obtain ⟨⟨g1, g2⟩, ⟨g3, g4⟩⟩ := big_bd hx hy
  have u1 : b64 (a * (c - d) + b * d) := ⟨by omega, by omega⟩
  have u2 : b64 (b * c - a * d) := ⟨by omega, by omega⟩
  have c1 : ((1 : Int64) ≤ lI (nrm c d)) = True := eq_true (by rw [l1, lI_le ⟨by decide, by decide⟩ hnn]; exact hp)
  have c2 : (lI (nrm c d) = 0) = False := eq_false (by rw [lI_0 hnn]; omega)
  have t1 : b64 ((a * (c - d) + b * d).tmod (nrm c d)) := by
    have := tm_bounds (a := a * (c - d) + b * d) (show 0 < nrm c d by omega)
    by_cases s : 0 ≤ a * (c - d) + b * d
    · exact ⟨by omega, by omega⟩
    · exact ⟨by omega, by omega⟩
  have t2 : b64 ((b * c - a * d).tmod (nrm c d)) := by
    have := tm_bounds (a := b * c - a * d) (show 0 < nrm c d by omega)
    by_cases s : 0 ≤ b * c - a * d
    · exact ⟨by omega, by omega⟩
    · exact ⟨by omega, by omega⟩
  have key : ed (c, d) (a, b) ↔ ((a * (c - d) + b * d).tmod (nrm c d) = 0 ∧ (b * c - a * d).tmod (nrm c d) = 0) := by
    rw [ed_iff h0, em_ec1, em_ec2, ← Int.dvd_iff_tmod_eq_zero, ← Int.dvd_iff_tmod_eq_zero]; rfl
  have r1 : (lI (a * (c - d) + b * d) - lI (a * (c - d) + b * d) / lI (nrm c d) * lI (nrm c d)) = lI ((a * (c - d) + b * d).tmod (nrm c d)) := lI_rem u1 hnn
  have r2 : (lI (b * c - a * d) - lI (b * c - a * d) / lI (nrm c d) * lI (nrm c d)) = lI ((b * c - a * d).tmod (nrm c d)) := lI_rem u2 hnn
  have v1 : lI a * (lI c - lI d) + lI b * lI d = lI (a * (c - d) + b * d) := by simp only [lI_mul, lI_sub, lI_add]
  have v2 : lI b * lI c - lI a * lI d = lI (b * c - a * d) := by simp only [lI_mul, lI_sub]
  unfold f_X5_isDividedBy
  rw [s_norm, Option.bind_some, v1, v2, r1, r2]
  simp only [c1, c2, if_true, if_false, lI_0 t1, lI_0 t2]
  constructor
  · intro h
    obtain ⟨k1, k2⟩ := key.mp h
    rw [if_pos k1, if_pos k2]
  · intro h
    by_cases k1 : (a * (c - d) + b * d).tmod (nrm c d) = 0
    · by_cases k2 : (b * c - a * d).tmod (nrm c d) = 0
      · exact absurd (key.mpr ⟨k1, k2⟩) h
      · rw [if_pos k1, if_neg k2]
    · rw [if_neg k1]
theorem s_divBy0 {a b : Int} (hx : eb (a, b)) : f_X5_isDividedBy (lI a) (lI b) (lI 0) (lI 0) = some (if a = 0 ∧ b = 0 then 1 else 0) := by
  have b1 := eb_64 hx
  unfold f_X5_isDividedBy
  rw [s_norm, Option.bind_some, if_neg (by decide), s_isNought b1.1 b1.2, Option.bind_some]
  by_cases c : a = 0 ∧ b = 0
  · rw [if_pos c, if_pos (by decide)]
  · rw [if_neg c, if_pos (by decide)]
theorem s_divides {a b c d : Int} (hx : eb (a, b)) (hy : eb (c, d)) (h0 : (a, b) ≠ (0, 0)) : ∃ ra rb : Int64, (ed (a, b) (c, d) → f_X11_divides (lI a) (lI b) (lI c) (lI d) = some (1, ra, rb)) ∧ (¬ ed (a, b) (c, d) → f_X11_divides (lI a) (lI b) (lI c) (lI d) = some (0, ra, rb)) := by
  have hr := eb_64 (a := (er (c, d) (a, b)).1) (b := (er (c, d) (a, b)).2) (er_eb hx h0)
  refine ⟨lI (er (c, d) (a, b)).1, lI (er (c, d) (a, b)).2, ?_, ?_⟩
  · intro h
    have := (er_zero h0).mpr h
    unfold f_X11_divides
    rw [s_rests hy hx h0, Option.bind_some, if_pos ((lI_0 hr.1).mpr (by rw [this])), if_pos ((lI_0 hr.2).mpr (by rw [this]))]
  · intro h
    unfold f_X11_divides
    rw [s_rests hy hx h0, Option.bind_some]
    by_cases c1 : lI (er (c, d) (a, b)).1 = 0
    · rw [if_pos c1]
      by_cases c2 : lI (er (c, d) (a, b)).2 = 0
      · exact absurd ((er_zero h0).mp (e_ext ((lI_0 hr.1).mp c1) ((lI_0 hr.2).mp c2))) h
      · rw [if_neg c2]
    · rw [if_neg c1]
theorem eit_em : ∀ (k : Nat) (x : Int × Int), eit k x = em x (eit k (1, 0))
  | 0, x => (em_one' x).symm
  | k + 1, x => by
    have h1 := eit_em k (em x (1, 1))
    have h2 := eit_em k (em (1, 0) (1, 1))
    rw [eit, eit, h1, h2, em_one, em_assoc]
theorem alike_iff {x y : Int × Int} (hy : y ≠ (0, 0)) (h : en x = en y) : ed y x ↔ ∃ k, k < 6 ∧ eit k x = y := by
  constructor
  · rintro ⟨q, rfl⟩
    have hq : en q = 1 := by
      rw [en_em] at h
      have := en_pos hy
      have e : en y * en q = en y * 1 := by omega
      exact Int.eq_of_mul_eq_mul_left (by omega) e
    have fin : ∀ k, k < 6 → em q (eit k (1, 0)) = (1, 0) → ∃ k, k < 6 ∧ eit k (em y q) = y := by
      intro k hk he
      refine ⟨k, hk, ?_⟩
      rw [eit_em, em_assoc, he, em_one']
    rcases en_1 hq with rfl | rfl | rfl | rfl | rfl | rfl
    · exact fin 0 (by decide) (by decide)
    · exact fin 5 (by decide) (by decide)
    · exact fin 4 (by decide) (by decide)
    · exact fin 3 (by decide) (by decide)
    · exact fin 2 (by decide) (by decide)
    · exact fin 1 (by decide) (by decide)
  · rintro ⟨k, hk, he⟩
    have fin : ∀ u, em (eit k (1, 0)) u = (1, 0) → ed y x := by
      intro u hu
      refine ⟨u, ?_⟩
      rw [← he, eit_em, em_assoc, hu, em_one']
    have : k = 0 ∨ k = 1 ∨ k = 2 ∨ k = 3 ∨ k = 4 ∨ k = 5 := by omega
    rcases this with rfl | rfl | rfl | rfl | rfl | rfl
    · exact fin (1, 0) (by decide)
    · exact fin (0, -1) (by decide)
    · exact fin (-1, -1) (by decide)
    · exact fin (-1, 0) (by decide)
    · exact fin (0, 1) (by decide)
    · exact fin (1, 1) (by decide)
/-- the reference's search among the six -/
theorem alike_loop {N : Nat} (hN : 1048576 ≤ N) {x y : Int × Int} (hx : eb x) (hy : eb y) : ∀ (m k : Nat), k + m = 6 → ∀ f : Nat, m < f → ∀ (v : Int32) (ra rb : Int64), (v = 1 ∧ (∃ i, i < 6 ∧ eit i x = y)) ∨ (v = 0 ∧ ∀ i, i < k → eit i x ≠ y) → ∃ (w : Int32) (ra' rb' : Int64), f_X11_areAlike_6 N f (lI x.1) (lI x.2) (lI y.1) (lI y.2) v (nI k) ra rb = some (w, ra', rb') ∧ ((w = 1 ∧ (∃ i, i < 6 ∧ eit i x = y)) ∨ (w = 0 ∧ ∀ i, i < 6 → eit i x ≠ y)) := by
  intro m
  induction m with
  | zero =>
    intro k hk f hf v ra rb h
    obtain rfl : k = 6 := by omega
    obtain ⟨f, rfl⟩ : ∃ f', f = f' + 1 := ⟨f - 1, by omega⟩
    rw [f_X11_areAlike_6, if_pos (show (6 : Int32) ≤ nI 6 by decide)]
    refine ⟨v, ra, rb, ?_, h⟩
    rcases h with ⟨rfl, -⟩ | ⟨rfl, -⟩ <;> rfl
  | succ m ih =>
    intro k hk f hf v ra rb h
    obtain ⟨f, rfl⟩ : ∃ f', f = f' + 1 := ⟨f - 1, by omega⟩
    have hz : eb ((eit k x).1, (eit k x).2) := by unfold eb at hx ⊢; show en (eit k x) ≤ _; rw [en_eit]; exact hx
    have b1 := eb_64 hz
    have b2 := eb_64 (a := y.1) (b := y.2) hy
    rw [f_X11_areAlike_6, if_neg (show ¬ (6 : Int32) ≤ nI k from nI_ge (b := 6) (by omega) (by decide)), s_ut x.1 x.2 (show k < N by omega) (show k < 2147483648 by omega), Option.bind_some, nI_1]
    rcases h with ⟨rfl, hv⟩ | ⟨rfl, hv⟩
    · rw [if_neg (by decide)]
      exact ih (k + 1) (by omega) f (by omega) 1 _ _ (Or.inl ⟨rfl, hv⟩)
    · rw [if_pos rfl]
      by_cases c1 : lI (eit k x).1 = lI y.1
      · by_cases c2 : lI (eit k x).2 = lI y.2
        · rw [if_pos c1, if_pos c2]
          exact ih (k + 1) (by omega) f (by omega) 1 _ _ (Or.inl ⟨rfl, k, by omega, e_ext ((lI_eq b1.1 b2.1).mp c1) ((lI_eq b1.2 b2.2).mp c2)⟩)
        · rw [if_pos c1, if_neg c2]
          refine ih (k + 1) (by omega) f (by omega) 0 _ _ (Or.inr ⟨rfl, fun i hi => ?_⟩)
          by_cases e : i = k
          · subst e; intro z; exact c2 (by rw [z])
          · exact hv i (by omega)
      · rw [if_neg c1]
        refine ih (k + 1) (by omega) f (by omega) 0 _ _ (Or.inr ⟨rfl, fun i hi => ?_⟩)
        by_cases e : i = k
        · subst e; intro z; exact c1 (by rw [z])
        · exact hv i (by omega)
theorem bit01 : f_X10_bit 1 = some 1 ∧ f_X10_bit 0 = some 0 := ⟨rfl, rfl⟩
/-- alike or not, on both sides -/
theorem s_alike {N : Nat} (hN : 1048576 ≤ N) {a b c d : Int} (hx : eb (a, b)) (hy : eb (c, d)) (ra rb : Int64) : ∃ (v : Int32) (ra' rb' : Int64), (v = 0 ∨ v = 1) ∧ f_X5_isAlike (lI a) (lI b) (lI c) (lI d) = some v ∧ f_X11_areAlike N (lI a) (lI b) (lI c) (lI d) ra rb = some (v, ra', rb') := by
  obtain ⟨w, ra', rb', e, h⟩ := alike_loop hN (x := (a, b)) (y := (c, d)) hx hy 6 0 rfl N (by omega) 0 ra rb (Or.inr ⟨rfl, fun i hi => by omega⟩)
  have hx' : nrm a b ≤ 300000000 := hx
  have hy' : nrm c d ≤ 300000000 := hy
  have n1 := nrm_nn a b
  have n2 := nrm_nn c d
  have k1 : (lI (nrm a b) = lI (nrm c d)) = (nrm a b = nrm c d) := propext (lI_eq ⟨by omega, by omega⟩ ⟨by omega, by omega⟩)
  have hn : ∀ i, eit i (a, b) = (c, d) → nrm a b = nrm c d := by
    intro i z
    have := en_eit i (a, b)
    rw [z] at this; exact this.symm
  refine ⟨w, ra', rb', ?_, ?_, e⟩
  · rcases h with ⟨rfl, -⟩ | ⟨rfl, -⟩
    · exact Or.inr rfl
    · exact Or.inl rfl
  · unfold f_X5_isAlike
    rw [s_norm, Option.bind_some, s_norm, Option.bind_some]
    simp only [k1]
    by_cases c0 : (c, d) = (0, 0)
    · have c1 : c = 0 := congrArg Prod.fst c0
      have d1 : d = 0 := congrArg Prod.snd c0
      subst c1; subst d1
      rw [s_divBy0 hx, Option.bind_some]
      have e0 : nrm 0 0 = 0 := rfl
      rw [e0]
      rcases h with ⟨rfl, i, hi, z⟩ | ⟨rfl, hv⟩
      · have := hn i z
        rw [e0] at this
        rw [if_pos this, if_pos (nrm_0.mp this), if_neg (by decide)]
      · by_cases q : nrm a b = 0
        · exfalso
          obtain ⟨rfl, rfl⟩ := nrm_0.mp q
          exact hv 0 (by decide) rfl
        · rw [if_neg q]
    · have dv := s_divBy hx hy c0
      rcases h with ⟨rfl, i, hi, z⟩ | ⟨rfl, hv⟩
      · have q := hn i z
        have := (alike_iff (x := (a, b)) c0 q).mpr ⟨i, hi, z⟩
        rw [if_pos q, dv.1 this, Option.bind_some, if_neg (by decide)]
      · by_cases q : nrm a b = nrm c d
        · have : ¬ ed (c, d) (a, b) := fun z => by
            obtain ⟨i, hi, z⟩ := (alike_iff (x := (a, b)) c0 q).mp z
            exact hv i hi z
          rw [if_pos q, dv.2 this, Option.bind_some, if_pos rfl]
        · rw [if_neg q]
/-- prime to each other or not, on both sides -/
theorem s_primeTo {N : Nat} (hN : 1048576 ≤ N) {a b c d : Int} (hx : eb (a, b)) (hy : eb (c, d)) : ∃ (v : Int32) (n : Nat), (v = 0 ∨ v = 1) ∧ n ≤ 100 ∧ (eX (a, b) (c, d) n).2 = (0, 0) ∧ (∀ i, i < n → (eX (a, b) (c, d) i).2 ≠ (0, 0)) ∧ (v = 1 ↔ en (eX (a, b) (c, d) n).1 = 1) ∧ (∀ (qa qb : Int64) (QA QB : Nat → Int64), ∃ (qa' qb' : Int64) (QA' QB' : Nat → Int64), f_X1_arePrimeToEachOther N qa qb QA QB (lI a) (lI b) (lI c) (lI d) = some (v, ePart (a, b) (c, d) n qa' qb' QA' QB')) ∧ (∀ ra rb : Int64, ∃ ra' rb' : Int64, f_X11_arePrimeTo N (lI a) (lI b) (lI c) (lI d) ra rb = some (v, ra', rb')) ∧ (∀ (v9 : Int32) (ra rb qa qb : Int64), ∃ (ra' rb' qa' qb' : Int64), f_X11_parted N (lI a) (lI b) (lI c) (lI d) v9 ra rb qa qb = some (ra', rb', nI n, qa', qb', lI (eX (a, b) (c, d) n).1.1, lI (eX (a, b) (c, d) n).1.2, lI (eS (a, b) (c, d) n).1.1, lI (eS (a, b) (c, d) n).1.2, lI (eT (a, b) (c, d) n).1.1, lI (eT (a, b) (c, d) n).1.2)) := by
  obtain ⟨n, hn, hz, hi, hC, hP, hG⟩ := s_euclid hN (x := (a, b)) (y := (c, d)) hx hy
  have hg := (eX_eb hx hy n hi).1
  have g1 : en (eX (a, b) (c, d) n).1 ≤ 300000000 := hg
  have g2 := en_nn (eX (a, b) (c, d) n).1
  have k1 : (lI (nrm (eX (a, b) (c, d) n).1.1 (eX (a, b) (c, d) n).1.2) = 1) = (en (eX (a, b) (c, d) n).1 = 1) := propext (by rw [l1]; exact lI_eq ⟨by show _ ≤ en _; omega, by show en _ < _; omega⟩ ⟨by decide, by decide⟩)
  have hu : f_X5_isUnit (lI (eX (a, b) (c, d) n).1.1) (lI (eX (a, b) (c, d) n).1.2) = some (if en (eX (a, b) (c, d) n).1 = 1 then 1 else 0) := by
    unfold f_X5_isUnit
    rw [s_norm, Option.bind_some]
    simp only [k1]
    by_cases c : en (eX (a, b) (c, d) n).1 = 1
    · rw [if_pos c, if_pos c]
    · rw [if_neg c, if_neg c]
  refine ⟨if en (eX (a, b) (c, d) n).1 = 1 then 1 else 0, n, ?_, hn, hz, hi, ?_, ?_, ?_, ?_⟩
  · by_cases c : en (eX (a, b) (c, d) n).1 = 1
    · rw [if_pos c]; exact Or.inr rfl
    · rw [if_neg c]; exact Or.inl rfl
  · by_cases c : en (eX (a, b) (c, d) n).1 = 1
    · rw [if_pos c]; exact ⟨fun _ => c, fun _ => rfl⟩
    · rw [if_neg c]; exact ⟨fun z => absurd z (by decide), fun z => absurd z c⟩
  · intro qa qb QA QB
    obtain ⟨qa', qb', QA', QB', eC, -⟩ := hC qa qb QA QB
    refine ⟨qa', qb', QA', QB', ?_⟩
    unfold f_X1_arePrimeToEachOther
    rw [eC, Option.bind_some]
    have hu' : f_X5_isUnit (ePart (a, b) (c, d) n qa' qb' QA' QB').2.1 (ePart (a, b) (c, d) n qa' qb' QA' QB').2.2.1 = some (if en (eX (a, b) (c, d) n).1 = 1 then 1 else 0) := hu
    rw [hu', Option.bind_some]
    by_cases c : en (eX (a, b) (c, d) n).1 = 1
    · rw [if_pos c, if_pos (by decide)]
    · rw [if_neg c, if_pos (by decide)]
  · intro ra rb
    have b1 := eb_64 hx
    have b2 := eb_64 hy
    have key : f_X11_arePrimeTo_28 N (lI a) (lI b) (lI c) (lI d) = some (if en (eX (a, b) (c, d) n).1 = 1 then 1 else 0, lI (eX (a, b) (c, d) n).1.1, lI (eX (a, b) (c, d) n).1.2) := by
      unfold f_X11_arePrimeTo_28
      rw [hG, Option.bind_some, s_normX, Option.bind_some]
      simp only [k1]
      by_cases c : en (eX (a, b) (c, d) n).1 = 1
      · rw [if_pos c, if_pos c]
      · rw [if_neg c, if_neg c]
    unfold f_X11_arePrimeTo
    rw [key]
    by_cases c1 : lI a = 0
    · by_cases c2 : lI b = 0
      · by_cases c3 : lI c = 0
        · by_cases c4 : lI d = 0
          · have q1 := (lI_0 b1.1).mp c1
            have q2 := (lI_0 b1.2).mp c2
            have q3 := (lI_0 b2.1).mp c3
            have q4 := (lI_0 b2.2).mp c4
            subst q1; subst q2; subst q3; subst q4
            obtain rfl : n = 0 := by
              by_cases z : n = 0
              · exact z
              · exact absurd rfl (hi 0 (by omega))
            rw [if_pos c1, if_pos c2, if_pos c3, if_pos c4]
            exact ⟨ra, rb, rfl⟩
          · rw [if_pos c1, if_pos c2, if_pos c3, if_neg c4]; exact ⟨_, _, rfl⟩
        · rw [if_pos c1, if_pos c2, if_neg c3]; exact ⟨_, _, rfl⟩
      · rw [if_pos c1, if_neg c2]; exact ⟨_, _, rfl⟩
    · rw [if_neg c1]; exact ⟨_, _, rfl⟩
  · intro v9 ra rb qa qb
    obtain ⟨ra', rb', qa', qb', e, -⟩ := hP v9 ra rb qa qb
    exact ⟨ra', rb', qa', qb', e⟩
theorem q_are (N : Nat) (hN : 1048576 ≤ N) (v1 v2 v3 : Int32) (m_drawers_full m_drawers_kept : Int32) (m_drawers_partA m_drawers_partB m_drawers_keptA m_drawers_keptB m_drawers_keptFull : Nat → Int32) (m_tape_size : Int32) (m_tape_bytes : Nat → Int32) (m_euclid_count : Int32) (m_euclid_last_a m_euclid_last_b m_euclid_lastOfFirst_a m_euclid_lastOfFirst_b m_euclid_lastOfSecond_a m_euclid_lastOfSecond_b m_euclid_next_a m_euclid_next_b m_euclid_nextOfFirst_a m_euclid_nextOfFirst_b m_euclid_nextOfSecond_a m_euclid_nextOfSecond_b m_euclid_q_a m_euclid_q_b : Int64) (m_euclid_quotientA m_euclid_quotientB : Nat → Int64) (m_primes_count : Int32) (m_primes_primeA m_primes_primeB : Nat → Int32) (m_one_a m_one_b m_two_a m_two_b : Int64) (m_taped m_states : Int32) (m_ra m_rb : Int64) (m_listed : Int32) (m_tape m_has m_keptHas m_first m_second m_keptFirst m_keptSecond m_la0 m_lb0 : Nat → Int32) (hR : kR m_drawers_full m_drawers_kept m_drawers_partA m_drawers_partB m_drawers_keptA m_drawers_keptB m_drawers_keptFull m_tape_size m_tape_bytes m_primes_count m_primes_primeA m_primes_primeB m_taped m_tape m_has m_keptHas m_first m_second m_keptFirst m_keptSecond m_states m_la0 m_lb0 m_listed) : ∃ (y : Int32 × Int32 × Int64 × Int64 × Int64 × Int64 × Int64 × Int64 × Int64 × Int64 × Int64 × Int64 × Int64 × Int64 × Int64 × Int64 × (Nat → Int64) × (Nat → Int64) × Int64 × Int64 × Int64 × Int64) (z : Int32 × Int64 × Int64), f_X10_are N v1 v2 v3 m_drawers_full m_drawers_partA m_drawers_partB m_euclid_count m_euclid_last_a m_euclid_last_b m_euclid_lastOfFirst_a m_euclid_lastOfFirst_b m_euclid_lastOfSecond_a m_euclid_lastOfSecond_b m_euclid_next_a m_euclid_next_b m_euclid_nextOfFirst_a m_euclid_nextOfFirst_b m_euclid_nextOfSecond_a m_euclid_nextOfSecond_b m_euclid_q_a m_euclid_q_b m_euclid_quotientA m_euclid_quotientB m_one_a m_one_b m_two_a m_two_b = some y ∧ f_X11_are N v1 v2 v3 m_ra m_rb m_has m_first m_second = some z ∧ y.1 = z.1 ∧ kR m_drawers_full m_drawers_kept m_drawers_partA m_drawers_partB m_drawers_keptA m_drawers_keptB m_drawers_keptFull m_tape_size m_tape_bytes m_primes_count m_primes_primeA m_primes_primeB m_taped m_tape m_has m_keptHas m_first m_second m_keptFirst m_keptSecond m_states m_la0 m_lb0 m_listed := by
  have hR0 := hR
  obtain ⟨⟨dr, hD⟩, hK, hT, hP⟩ := hR
  obtain ⟨w, hw, rfl⟩ := iI_of v3
  have in2 : f_X11_in (iI w).toInt64 0 2 = some (if 0 ≤ w ∧ w ≤ 2 then 1 else 0) := s_in32 hw (l := 0) (h := 2) ⟨by decide, by decide⟩ ⟨by decide, by decide⟩
  have le2 : (iI w ≤ 2) = (w ≤ 2) := propext (iI_le (b := 2) hw ⟨by decide, by decide⟩)
  have q1 : (iI w = 1) = (w = 1) := propext (iI_eq hw (b := 1) ⟨by decide, by decide⟩)
  have q0 : (iI w = 0) = (w = 0) := propext (iI_0 hw)
  have qlt : (iI w < 0) = (w < 0) := propext (iI_lt0 hw)
  unfold f_X10_are f_X11_are
  simp only [le2, q0, q1, qlt, in2, Option.bind_some]
  by_cases cw : 0 ≤ w ∧ w ≤ 2
  · rw [if_neg (show ¬ w < 0 by omega), if_pos cw.2]
    rcases dr_two dr v1 v2 with h | ⟨i, j, hi, hj, rfl, rfl, h | ⟨a, b, c, d, e1, e2⟩⟩
    · rw [s_two_out h, Option.bind_some, if_neg jm1]
      rcases s_both_out h with h | ⟨h, h'⟩
      · simp only [h, Option.bind_some, z00, if_true]
        exact ⟨_, _, rfl, rfl, rfl, hR0⟩
      · simp only [h, h', Option.bind_some, z00, if_true, z10, if_false]
        exact ⟨_, _, rfl, rfl, rfl, hR0⟩
    · rw [s_two_none hD hi hj h, Option.bind_some, if_neg jm2]
      simp only [(dr_in hi).2, (dr_in hj).2, cw, and_self, Option.bind_some, if_true, z10, if_false, dr_cl hi, dr_n0 hi, dr_8 hi, dr_cl hj, dr_n0 hj, dr_8 hj, or_self]
      cases ei : dr i with
      | none =>
        simp only [hD.hasN hi ei, z00, if_true]
        exact ⟨_, _, rfl, rfl, rfl, hR0⟩
      | some p =>
        have ej : dr j = none := by
          rcases h with h | h
          · rw [h] at ei; exact absurd ei (by simp)
          · exact h
        simp only [hD.has1 hi (a := p.1) (b := p.2) ei, hD.hasN hj ej, z00, if_true, z10, if_false]
        exact ⟨_, _, rfl, rfl, rfl, hR0⟩
    · obtain ⟨hn1, -, -, f1, g1⟩ := hD.num hi e1
      obtain ⟨hn2, -, -, f2, g2⟩ := hD.num hj e2
      have x1 := hn1.eb
      have x2 := hn2.eb
      rw [s_two hD hi hj e1 e2, Option.bind_some, if_pos rfl]
      simp only [(dr_in hi).2, (dr_in hj).2, cw, and_self, Option.bind_some, if_true, z10, if_false, dr_cl hi, dr_n0 hi, dr_8 hi, dr_cl hj, dr_n0 hj, dr_8 hj, or_self, hD.has1 hi e1, hD.has1 hj e2, f1, f2, g1, g2, iI_l hn1.b32.1, iI_l hn1.b32.2, iI_l hn2.b32.1, iI_l hn2.b32.2, s_isNothing hD hi e1, s_isNothing hD hj e2]
      by_cases w0 : w = 0
      · obtain ⟨v, ra', rb', hv, k1, k2⟩ := s_alike hN x1 x2 m_ra m_rb
        rw [if_pos w0, if_pos w0, k1, Option.bind_some, k2, Option.bind_some]
        rcases hv with rfl | rfl
        · rw [bit01.2, Option.bind_some, if_pos rfl]; exact ⟨_, _, rfl, rfl, rfl, hR0⟩
        · rw [bit01.1, Option.bind_some, if_neg j1]; exact ⟨_, _, rfl, rfl, rfl, hR0⟩
      · by_cases w1 : w = 1
        · obtain ⟨v, n, hv, -, -, -, -, hC, hA, -⟩ := s_primeTo hN x1 x2
          obtain ⟨qa', qb', QA', QB', k1⟩ := hC m_euclid_q_a m_euclid_q_b m_euclid_quotientA m_euclid_quotientB
          obtain ⟨ra', rb', k2⟩ := hA m_ra m_rb
          rw [if_neg w0, if_neg w0, if_pos w1, if_pos w1, k1, Option.bind_some, k2, Option.bind_some]
          rcases hv with rfl | rfl
          · rw [bit01.2, Option.bind_some, if_pos rfl]; exact ⟨_, _, rfl, rfl, rfl, hR0⟩
          · rw [bit01.1, Option.bind_some, if_neg j1]; exact ⟨_, _, rfl, rfl, rfl, hR0⟩
        · rw [if_neg w0, if_neg w0, if_neg w1, if_neg w1]
          by_cases h0 : a = 0 ∧ b = 0
          · obtain ⟨rfl, rfl⟩ := h0
            rw [s_divBy0 x2, Option.bind_some, if_pos (show (0 : Int) = 0 ∧ (0 : Int) = 0 from ⟨rfl, rfl⟩), if_neg j1]
            by_cases h1 : c = 0 ∧ d = 0
            · rw [if_pos h1, bit01.1, Option.bind_some, if_neg j1]; exact ⟨_, _, rfl, rfl, rfl, hR0⟩
            · rw [if_neg h1, bit01.2, Option.bind_some, if_pos rfl]; exact ⟨_, _, rfl, rfl, rfl, hR0⟩
          · have h0' : (a, b) ≠ (0, 0) := fun z => h0 ⟨congrArg Prod.fst z, congrArg Prod.snd z⟩
            rw [if_neg h0, if_pos rfl]
            have dv := s_divBy x2 x1 h0'
            obtain ⟨ra', rb', r1, r2⟩ := s_divides x1 x2 h0'
            by_cases q : ed (a, b) (c, d)
            · rw [dv.1 q, Option.bind_some, r1 q, Option.bind_some, bit01.1, Option.bind_some, if_neg j1]; exact ⟨_, _, rfl, rfl, rfl, hR0⟩
            · rw [dv.2 q, Option.bind_some, r2 q, Option.bind_some, bit01.2, Option.bind_some, if_pos rfl]; exact ⟨_, _, rfl, rfl, rfl, hR0⟩
  · have cA : ∀ {P R : Option (Int32 × Int32 × Int64 × Int64 × Int64 × Int64 × Int64 × Int64 × Int64 × Int64 × Int64 × Int64 × Int64 × Int64 × Int64 × Int64 × (Nat → Int64) × (Nat → Int64) × Int64 × Int64 × Int64 × Int64)}, (if w < 0 then P else if w ≤ 2 then R else P) = P := by
      intro P R
      by_cases c1 : w < 0
      · rw [if_pos c1]
      · rw [if_neg c1, if_neg (by omega)]
    rw [cA]
    simp only [cw, if_false, z00, if_true]
    rcases dr_cases v1 with h1 | ⟨i, hi, rfl⟩
    · simp only [(dr_out h1).2, Option.bind_some, z00, if_true]
      exact ⟨_, _, rfl, rfl, rfl, hR0⟩
    · rcases dr_cases v2 with h2 | ⟨j, hj, rfl⟩
      · simp only [(dr_in hi).2, (dr_out h2).2, Option.bind_some, z00, if_true, z10, if_false]
        exact ⟨_, _, rfl, rfl, rfl, hR0⟩
      · simp only [(dr_in hi).2, (dr_in hj).2, Option.bind_some, z00, if_true, z10, if_false]
        exact ⟨_, _, rfl, rfl, rfl, hR0⟩
