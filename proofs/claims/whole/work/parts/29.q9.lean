/-! ===== what is left of two, by both; residue, power, inverse ===== -/
theorem zm1 : ((-1 : Int32) = 0) = False := eq_false (by decide)
theorem zm2 : ((-2 : Int32) = 0) = False := eq_false (by decide)
theorem zm3 : ((-3 : Int32) = 0) = False := eq_false (by decide)
theorem zm4 : ((-4 : Int32) = 0) = False := eq_false (by decide)
theorem eX_comb (x y : Int × Int) : ∀ n : Nat, (eX x y n).1 = ead (em (eS x y n).1 x) (em (eT x y n).1 y) ∧ (eX x y n).2 = ead (em (eS x y n).2 x) (em (eT x y n).2 y)
  | 0 => by
    constructor
    · show x = ead (em (1, 0) x) (em (0, 0) y)
      rw [em_one, em_zero']; unfold ead; exact e_ext (Int.add_zero _).symm (Int.add_zero _).symm
    · show y = ead (em (0, 0) x) (em (1, 0) y)
      rw [em_one, em_zero']; unfold ead; exact e_ext (Int.zero_add _).symm (Int.zero_add _).symm
  | n + 1 => by
    obtain ⟨h1, h2⟩ := eX_comb x y n
    refine ⟨h2, ?_⟩
    have q1 := congrArg Prod.fst h1
    have q2 := congrArg Prod.snd h1
    have q3 := congrArg Prod.fst h2
    have q4 := congrArg Prod.snd h2
    show esb (eX x y n).1 (em (eQ x y n) (eX x y n).2) = ead (em (esb (eS x y n).1 (em (eQ x y n) (eS x y n).2)) x) (em (esb (eT x y n).1 (em (eQ x y n) (eT x y n).2)) y)
    generalize eQ x y n = q at *
    generalize eX x y n = X at *
    generalize eS x y n = s at *
    generalize eT x y n = t at *
    simp only [ead, em] at q1 q2 q3 q4
    simp only [ead, em, esb]
    refine e_ext ?_ ?_
    · simp only [q1, q3, q4]; grind
    · simp only [q2, q3, q4]; grind
theorem eX_det (x y : Int × Int) : ∀ n : Nat, esb (em (eS x y n).2 (eX x y n).1) (em (eS x y n).1 (eX x y n).2) = y ∨ esb (em (eS x y n).2 (eX x y n).1) (em (eS x y n).1 (eX x y n).2) = esb (0, 0) y
  | 0 => by
    right
    show esb (em (0, 0) x) (em (1, 0) y) = _
    rw [em_zero', em_one]
  | n + 1 => by
    have e : esb (em (eS x y (n + 1)).2 (eX x y (n + 1)).1) (em (eS x y (n + 1)).1 (eX x y (n + 1)).2) = esb (0, 0) (esb (em (eS x y n).2 (eX x y n).1) (em (eS x y n).1 (eX x y n).2)) := by
      show esb (em (esb (eS x y n).1 (em (eQ x y n) (eS x y n).2)) (eX x y n).2) (em (eS x y n).2 (esb (eX x y n).1 (em (eQ x y n) (eX x y n).2))) = _
      simp only [em, esb]
      refine e_ext ?_ ?_ <;> simp only [] <;> grind
    rw [e]
    rcases eX_det x y n with h | h
    · right; rw [h]
    · left; rw [h]; unfold esb; exact e_ext (by simp only []; omega) (by simp only []; omega)
theorem en_add_le (u v : Int × Int) : 2 * en (ead u v) ≤ 6 * en u + 3 * en v := by
  have h := en_nn (2 * u.1 - v.1, 2 * u.2 - v.2)
  have e : en (2 * u.1 - v.1, 2 * u.2 - v.2) = 6 * en u + 3 * en v - 2 * en (ead u v) := by
    simp only [en, nrm, ead]; grind
  omega
theorem eS_bd {x y : Int × Int} : ∀ n : Nat, (∀ j, j < n → (eX x y j).2 ≠ (0, 0)) → en (em (eS x y n).2 (eX x y n).1) ≤ 20 * en y
  | 0, _ => by
    show en (em (0, 0) x) ≤ _
    rw [em_zero']
    have := en_nn y
    show nrm 0 0 ≤ _
    have e : nrm 0 0 = 0 := rfl
    omega
  | n + 1, h => by
    have ih := eS_bd n (fun j hj => h j (by omega))
    have yn := en_nn y
    have hd := eX_det x y (n + 1)
    have e1 : em (eS x y (n + 1)).2 (eX x y (n + 1)).1 = ead (esb (em (eS x y (n + 1)).2 (eX x y (n + 1)).1) (em (eS x y (n + 1)).1 (eX x y (n + 1)).2)) (em (eS x y (n + 1)).1 (eX x y (n + 1)).2) := (esb_ead _ _).symm
    have e2 := en_add_le (esb (em (eS x y (n + 1)).2 (eX x y (n + 1)).1) (em (eS x y (n + 1)).1 (eX x y (n + 1)).2)) (em (eS x y (n + 1)).1 (eX x y (n + 1)).2)
    rw [← e1] at e2
    have e3 : en (esb (em (eS x y (n + 1)).2 (eX x y (n + 1)).1) (em (eS x y (n + 1)).1 (eX x y (n + 1)).2)) = en y := by
      rcases hd with hd | hd
      · rw [hd]
      · rw [hd]; simp only [en, nrm, esb]; grind
    rw [e3] at e2
    have e4 : 16 * en (em (eS x y (n + 1)).1 (eX x y (n + 1)).2) ≤ 180 * en y := by
      have f1 : em (eS x y (n + 1)).1 (eX x y (n + 1)).2 = em (eS x y n).2 (er (eX x y n).1 (eX x y n).2) := rfl
      rw [f1, en_em]
      rw [en_em] at ih
      have s0 := en_nn (eS x y n).2
      have r1 := er_norm (x := (eX x y n).1) (h n (by omega))
      have r2 : 4 * en (er (eX x y n).1 (eX x y n).2) * en (eS x y n).2 ≤ 3 * en (eX x y n).2 * en (eS x y n).2 := Int.mul_le_mul_of_nonneg_right r1 s0
      cases n with
      | zero =>
        have z : en (eS x y 0).2 = 0 := rfl
        rw [z, Int.zero_mul]; omega
      | succ n =>
        have r3 := er_norm (x := (eX x y n).1) (h n (by omega))
        have r4 : 4 * en (eX x y (n + 1)).2 * en (eS x y (n + 1)).2 ≤ 3 * en (eX x y (n + 1)).1 * en (eS x y (n + 1)).2 := Int.mul_le_mul_of_nonneg_right r3 s0
        have g1 := Int.mul_assoc 4 (en (er (eX x y (n + 1)).1 (eX x y (n + 1)).2)) (en (eS x y (n + 1)).2)
        have g2 := Int.mul_assoc 3 (en (eX x y (n + 1)).2) (en (eS x y (n + 1)).2)
        have g3 := Int.mul_assoc 4 (en (eX x y (n + 1)).2) (en (eS x y (n + 1)).2)
        have g4 := Int.mul_assoc 3 (en (eX x y (n + 1)).1) (en (eS x y (n + 1)).2)
        have g5 := Int.mul_comm (en (er (eX x y (n + 1)).1 (eX x y (n + 1)).2)) (en (eS x y (n + 1)).2)
        have g6 := Int.mul_comm (en (eX x y (n + 1)).1) (en (eS x y (n + 1)).2)
        omega
    omega
theorem eS_small {x y : Int × Int} (hy : eb y) {n : Nat} (h : ∀ j, j < n → (eX x y j).2 ≠ (0, 0)) : en (eS x y n).1 ≤ 6000000000 := by
  have hy' : en y ≤ 300000000 := hy
  cases n with
  | zero => show nrm 1 0 ≤ _; decide
  | succ n =>
    show en (eS x y n).2 ≤ _
    have b := eS_bd (x := x) (y := y) n (fun j hj => h j (by omega))
    rw [en_em] at b
    have s0 := en_nn (eS x y n).2
    cases n with
    | zero => show nrm 0 0 ≤ _; decide
    | succ n =>
      have p : 1 ≤ en (eX x y (n + 1)).1 := en_pos (h n (by omega))
      have := Int.mul_le_mul_of_nonneg_left p s0
      omega
theorem en_parts {z : Int × Int} (h : en z ≤ 6000000000) : (-100000 ≤ z.1 ∧ z.1 ≤ 100000) ∧ (-100000 ≤ z.2 ∧ z.2 ≤ 100000) := by
  have h1 := nrm4 z.1 z.2
  have h2 := nrm4' z.1 z.2
  have h3 : nrm z.1 z.2 ≤ 6000000000 := h
  have s1 := sq_nn (2 * z.1 - z.2)
  have s2 := sq_nn (2 * z.2 - z.1)
  exact ⟨sq_lt (M := 100000) (by decide) (by omega), sq_lt (M := 100000) (by decide) (by omega)⟩
/-- prime to each other -/
def cop (x y : Int × Int) : Prop := ∃ u v : Int × Int, ead (em u x) (em v y) = (1, 0)
theorem eX_back {x y d : Int × Int} : ∀ n : Nat, ed d (eX x y n).1 → ed d (eX x y n).2 → ed d x ∧ ed d y
  | 0, h1, h2 => ⟨h1, h2⟩
  | n + 1, h1, h2 => by
    apply eX_back n
    · have e : (eX x y n).1 = ead (esb (eX x y n).1 (em (eQ x y n) (eX x y n).2)) (em (eQ x y n) (eX x y n).2) := (esb_ead _ _).symm
      rw [e]
      exact ed_add h2 (ed_mull h1 _)
    · exact h1
theorem ed_1 {x : Int × Int} (h : ed x (1, 0)) : en x = 1 := by
  have h1 := en_ed h
  have e : en (1, 0) = 1 := rfl
  rw [e] at h1
  have h2 := Int.le_of_dvd (by decide) h1
  have h3 := en_nn x
  by_cases c : en x = 0
  · rw [c] at h1; exact absurd (Int.zero_dvd.mp h1) (by decide)
  · omega
theorem cop_iff {x y : Int × Int} {n : Nat} (hz : (eX x y n).2 = (0, 0)) : en (eX x y n).1 = 1 ↔ cop x y := by
  constructor
  · intro h
    refine ⟨em (ec (eX x y n).1) (eS x y n).1, em (ec (eX x y n).1) (eT x y n).1, ?_⟩
    rw [em_assoc, em_assoc, ← em_add, ← (eX_comb x y n).1, em_comm, en_unit h]
  · rintro ⟨u, v, h⟩
    have hb := eX_back (d := (eX x y n).1) (x := x) (y := y) n (ed_refl _) (by rw [hz]; exact ed_zero _)
    apply ed_1
    rw [← h]
    exact ed_add (ed_mull hb.1 _) (ed_mull hb.2 _)
section OC
variable {full : Int32} {pA pB has fst snd : Nat → Int32} {dr : Nat → Option (Int × Int)}
theorem s_areD_out {v1 v2 : Int32} (h : (v1 < 0 ∨ (8 : Int32) ≤ v1) ∨ (v2 < 0 ∨ (8 : Int32) ≤ v2)) (v3 : Int32) : f_X11_areDrawers v1 v2 v3 = some 0 := by
  unfold f_X11_areDrawers
  rcases s_both_out h with h | ⟨h, h'⟩
  · simp only [h, Option.bind_some, z00, if_true]
  · simp only [h, h', Option.bind_some, z00, z10, if_true, if_false]
theorem s_areD {i j : Nat} (hi : i < 8) (hj : j < 8) {w : Int} (hw : b32 w) : f_X11_areDrawers (nI i) (nI j) (iI w) = some (if 0 ≤ w ∧ w ≤ 1 then 1 else 0) := by
  have hin : f_X11_in (iI w).toInt64 0 1 = some (if 0 ≤ w ∧ w ≤ 1 then 1 else 0) := s_in32 hw (l := 0) (h := 1) ⟨by decide, by decide⟩ ⟨by decide, by decide⟩
  unfold f_X11_areDrawers
  simp only [(dr_in hi).2, (dr_in hj).2, Option.bind_some, z10, if_false, hin]
  by_cases c : 0 ≤ w ∧ w ≤ 1
  · rw [if_pos c, if_neg (by decide)]
  · rw [if_neg c, if_pos rfl]
theorem isome_and1 {i j : Nat} {p q : Int × Int} (h : dr i = some p) (h' : dr j = some q) : ((dr i).isSome && (dr j).isSome) = true := by rw [h, h']; rfl
/-- the four ways of a call that names two drawers and a part -/
theorem oc_cases {N : Nat} (hN : 1048576 ≤ N) (hD : kRow full pA pB has fst snd 0 dr) (v1 v2 v3 : Int32) (ms mw mt oa ob ta tb : Int64) : (∃ y, f_X10_openClasses N v1 v2 v3 full pA pB ms mw mt oa ob ta tb = some (-1, y) ∧ f_X11_areDrawers v1 v2 v3 = some 0) ∨ (∃ y, f_X10_openClasses N v1 v2 v3 full pA pB ms mw mt oa ob ta tb = some (-2, y) ∧ f_X11_areDrawers v1 v2 v3 = some 1 ∧ f_X11_hasBoth v1 v2 has = some 0) ∨ (∃ y, f_X10_openClasses N v1 v2 v3 full pA pB ms mw mt oa ob ta tb = some (-3, y) ∧ f_X11_areDrawers v1 v2 v3 = some 1 ∧ f_X11_hasBoth v1 v2 has = some 1 ∧ f_X11_isNothing v2 fst snd = some 1) ∨ ∃ (i j : Nat) (a b c d H W S : Int), i < 8 ∧ j < 8 ∧ v1 = nI i ∧ v2 = nI j ∧ (v3 = 0 ∨ v3 = 1) ∧ dr i = some (a, b) ∧ dr j = some (c, d) ∧ (c, d) ≠ (0, 0) ∧ bx (c, d) H W S ∧ f_X10_openClasses N v1 v2 v3 full pA pB ms mw mt oa ob ta tb = some (0, lI H, lI W, lI S, lI a, lI b, lI c, lI d) ∧ f_X11_areDrawers v1 v2 v3 = some 1 ∧ f_X11_hasBoth v1 v2 has = some 1 ∧ f_X11_isNothing v2 fst snd = some 0 ∧ f_X11_laysBox N (lI c) (lI d) = some (lI W, lI H, lI S) := by
  obtain ⟨w, hw, rfl⟩ := iI_of v3
  have hle : (iI w ≤ 1) = (w ≤ 1) := propext (iI_le hw (b := 1) ⟨by decide, by decide⟩)
  have hlt : (iI w < 0) = (w < 0) := propext (iI_lt0 hw)
  unfold f_X10_openClasses
  simp only [hle, hlt]
  rcases dr_two dr v1 v2 with h | ⟨i, j, hi, hj, rfl, rfl, h⟩
  · left
    rw [s_two_out h]
    simp only [Option.bind_some, zm1, if_false]
    by_cases c1 : w < 0
    · rw [if_pos c1]; exact ⟨_, rfl, s_areD_out h _⟩
    · rw [if_neg c1]
      by_cases c2 : w ≤ 1
      · rw [if_pos c2]; exact ⟨_, rfl, s_areD_out h _⟩
      · rw [if_neg c2]; exact ⟨_, rfl, s_areD_out h _⟩
  · by_cases cw : 0 ≤ w ∧ w ≤ 1
    · rw [if_neg (show ¬ w < 0 by omega), if_pos cw.2, s_areD hi hj hw, if_pos cw, s_hasBoth hD hi hj]
      right
      rcases h with h | ⟨a, b, c, d, e1, e2⟩
      · left
        rw [s_two_none hD hi hj h, Option.bind_some, if_neg jm2, isome_and h]
        exact ⟨_, rfl, rfl, rfl⟩
      · right
        obtain ⟨hn1, -, -, f1, g1⟩ := hD.num hi e1
        obtain ⟨hn2, -, -, f2, g2⟩ := hD.num hj e2
        rw [s_two hD hi hj e1 e2, Option.bind_some, if_pos rfl, isome_and1 e1 e2, s_isNothing hD hj e2]
        by_cases c0 : c = 0 ∧ d = 0
        · left
          obtain ⟨rfl, rfl⟩ := c0
          have : f_X4_open N ms mw mt (lI 0) (lI 0) = some (0, ms, mw, mt) := s_open0 hN _ _ _
          simp only [this, Option.bind_some, z00, if_true]
          exact ⟨_, rfl, trivial, trivial, rfl⟩
        · right
          have h0 : (c, d) ≠ (0, 0) := fun z => c0 ⟨congrArg Prod.fst z, congrArg Prod.snd z⟩
          obtain ⟨H, W, S, k1, k2, k3⟩ := s_box hN hn2.eb h0
          simp only [k2, Option.bind_some, z10, if_false, c0, if_true]
          refine ⟨i, j, a, b, c, d, H, W, S, hi, hj, rfl, rfl, ?_, e1, e2, h0, k1, rfl, trivial, trivial, trivial, k3⟩
          have : w = 0 ∨ w = 1 := by omega
          rcases this with rfl | rfl
          · exact Or.inl rfl
          · exact Or.inr rfl
    · left
      rw [s_areD hi hj hw, if_neg cw]
      by_cases c1 : w < 0
      · rw [if_pos c1]; exact ⟨_, rfl, rfl⟩
      · rw [if_neg c1, if_neg (by omega)]; exact ⟨_, rfl, rfl⟩
end OC
theorem s_part2 (v : Int32) (x y : Int64) : ∃ r : Int32, f_X10_part v x y = some r ∧ f_X11_part v x y = some r := by
  unfold f_X10_part f_X11_part
  by_cases c : v = 0
  · rw [if_pos c]; exact ⟨_, rfl, rfl⟩
  · rw [if_neg c]; exact ⟨_, rfl, rfl⟩
theorem q_residue (N : Nat) (hN : 1048576 ≤ N) (v1 v2 v3 : Int32) (m_drawers_full m_drawers_kept : Int32) (m_drawers_partA m_drawers_partB m_drawers_keptA m_drawers_keptB m_drawers_keptFull : Nat → Int32) (m_tape_size : Int32) (m_tape_bytes : Nat → Int32) (m_modulus_step m_modulus_width m_modulus_slant : Int64) (m_primes_count : Int32) (m_primes_primeA m_primes_primeB : Nat → Int32) (m_one_a m_one_b m_two_a m_two_b : Int64) (m_taped m_states : Int32) (m_ra m_rb m_boxWide m_boxHigh m_boxStep : Int64) (m_listed : Int32) (m_tape m_has m_keptHas m_first m_second m_keptFirst m_keptSecond m_la0 m_lb0 : Nat → Int32) (hR : kR m_drawers_full m_drawers_kept m_drawers_partA m_drawers_partB m_drawers_keptA m_drawers_keptB m_drawers_keptFull m_tape_size m_tape_bytes m_primes_count m_primes_primeA m_primes_primeB m_taped m_tape m_has m_keptHas m_first m_second m_keptFirst m_keptSecond m_states m_la0 m_lb0 m_listed) : ∃ (y : Int32 × Int64 × Int64 × Int64 × Int64 × Int64 × Int64 × Int64) (z : Int32 × Int64 × Int64 × Int64 × Int64 × Int64), f_X10_residue N v1 v2 v3 m_drawers_full m_drawers_partA m_drawers_partB m_modulus_step m_modulus_width m_modulus_slant m_one_a m_one_b m_two_a m_two_b = some y ∧ f_X11_residue N v1 v2 v3 m_ra m_rb m_boxWide m_boxHigh m_boxStep m_has m_first m_second = some z ∧ y.1 = z.1 ∧ kR m_drawers_full m_drawers_kept m_drawers_partA m_drawers_partB m_drawers_keptA m_drawers_keptB m_drawers_keptFull m_tape_size m_tape_bytes m_primes_count m_primes_primeA m_primes_primeB m_taped m_tape m_has m_keptHas m_first m_second m_keptFirst m_keptSecond m_states m_la0 m_lb0 m_listed := by
  have hR0 := hR
  obtain ⟨⟨dr, hD⟩, hK, hT, hP⟩ := hR
  unfold f_X10_residue f_X11_residue
  rcases oc_cases hN hD v1 v2 v3 m_modulus_step m_modulus_width m_modulus_slant m_one_a m_one_b m_two_a m_two_b with ⟨y, h1, h2⟩ | ⟨y, h1, h2, h3⟩ | ⟨y, h1, h2, h3, h4⟩ | ⟨i, j, a, b, c, d, H, W, S, hi, hj, rfl, rfl, hv, e1, e2, h0, hB, h1, h2, h3, h4, h5⟩
  · simp only [h1, h2, Option.bind_some, zm1, z00, if_true, if_false]
    exact ⟨_, _, rfl, rfl, rfl, hR0⟩
  · simp only [h1, h2, h3, Option.bind_some, zm2, z00, z10, if_true, if_false]
    exact ⟨_, _, rfl, rfl, rfl, hR0⟩
  · simp only [h1, h2, h3, h4, Option.bind_some, zm3, z00, z10, if_true, if_false]
    exact ⟨_, _, rfl, rfl, rfl, hR0⟩
  · obtain ⟨hn1, -, -, f1, g1⟩ := hD.num hi e1
    obtain ⟨hn2, -, -, f2, g2⟩ := hD.num hj e2
    have hbd := eb_bd hn1.eb
    have k := small_ok hB hn2.eb (x := a) (y := b) ⟨by omega, by omega⟩ ⟨by omega, by omega⟩
    rw [h1, h2, h3, h4]
    simp only [Option.bind_some, z00, z10, if_true, if_false, dr_cl hi, dr_n0 hi, dr_8 hi, dr_cl hj, dr_n0 hj, dr_8 hj, or_self, f1, f2, g1, g2, iI_l hn1.b32.1, iI_l hn1.b32.2, iI_l hn2.b32.1, iI_l hn2.b32.2, h5, s_reduce hB hn2.eb k.1 k.2.1, s_boxes hB hn2.eb k.1 k.2.2]
    obtain ⟨r, r1, r2⟩ := s_part2 v3 (lI (rs H W S (a, b)).1) (lI (rs H W S (a, b)).2)
    rw [r1, r2, Option.bind_some, Option.bind_some]
    exact ⟨_, _, rfl, rfl, rfl, hR0⟩
theorem q_power (N : Nat) (hN : 1048576 ≤ N) (v1 v2 v3 v4 : Int32) (m_drawers_full m_drawers_kept : Int32) (m_drawers_partA m_drawers_partB m_drawers_keptA m_drawers_keptB m_drawers_keptFull : Nat → Int32) (m_tape_size : Int32) (m_tape_bytes : Nat → Int32) (m_modulus_step m_modulus_width m_modulus_slant m_modulus_square_a m_modulus_square_b : Int64) (m_primes_count : Int32) (m_primes_primeA m_primes_primeB : Nat → Int32) (m_one_a m_one_b m_two_a m_two_b m_out_a m_out_b : Int64) (m_taped m_states : Int32) (m_ra m_rb m_boxWide m_boxHigh m_boxStep : Int64) (m_listed : Int32) (m_tape m_has m_keptHas m_first m_second m_keptFirst m_keptSecond m_la0 m_lb0 : Nat → Int32) (hR : kR m_drawers_full m_drawers_kept m_drawers_partA m_drawers_partB m_drawers_keptA m_drawers_keptB m_drawers_keptFull m_tape_size m_tape_bytes m_primes_count m_primes_primeA m_primes_primeB m_taped m_tape m_has m_keptHas m_first m_second m_keptFirst m_keptSecond m_states m_la0 m_lb0 m_listed) : ∃ (y : Int32 × Int64 × Int64 × Int64 × Int64 × Int64 × Int64 × Int64 × Int64 × Int64 × Int64 × Int64) (z : Int32 × Int64 × Int64 × Int64 × Int64 × Int64), f_X10_power N v1 v2 v3 v4 m_drawers_full m_drawers_partA m_drawers_partB m_modulus_step m_modulus_width m_modulus_slant m_modulus_square_a m_modulus_square_b m_one_a m_one_b m_two_a m_two_b m_out_a m_out_b = some y ∧ f_X11_power N v1 v2 v3 v4 m_ra m_rb m_boxWide m_boxHigh m_boxStep m_has m_first m_second = some z ∧ y.1 = z.1 ∧ kR m_drawers_full m_drawers_kept m_drawers_partA m_drawers_partB m_drawers_keptA m_drawers_keptB m_drawers_keptFull m_tape_size m_tape_bytes m_primes_count m_primes_primeA m_primes_primeB m_taped m_tape m_has m_keptHas m_first m_second m_keptFirst m_keptSecond m_states m_la0 m_lb0 m_listed := by
  have hR0 := hR
  obtain ⟨⟨dr, hD⟩, hK, hT, hP⟩ := hR
  obtain ⟨e, he, rfl⟩ := iI_of v2
  have hin : f_X11_in (lI e) 0 1000000000 = some (if 0 ≤ e ∧ e ≤ 1000000000 then 1 else 0) := s_in (b64_of32 he) (l := 0) (h := 1000000000) ⟨by decide, by decide⟩ ⟨by decide, by decide⟩
  have hle : (iI e ≤ 1000000000) = (e ≤ 1000000000) := propext (iI_le he (b := 1000000000) ⟨by decide, by decide⟩)
  have hlt : (iI e < 0) = (e < 0) := propext (iI_lt0 he)
  unfold f_X10_power f_X11_power
  simp only [hin, hle, hlt, iI_l he]
  by_cases ce : 0 ≤ e ∧ e ≤ 1000000000
  · rw [if_neg (show ¬ e < 0 by omega), if_pos ce.2]
    rcases oc_cases hN hD v1 v3 v4 m_modulus_step m_modulus_width m_modulus_slant m_one_a m_one_b m_two_a m_two_b with ⟨y, h1, h2⟩ | ⟨y, h1, h2, h3⟩ | ⟨y, h1, h2, h3, h4⟩ | ⟨i, j, a, b, c, d, H, W, S, hi, hj, rfl, rfl, hv, e1, e2, h0, hB, h1, h2, h3, h4, h5⟩
    · simp only [h1, h2, Option.bind_some, zm1, z00, if_true, if_false]
      exact ⟨_, _, rfl, rfl, rfl, hR0⟩
    · simp only [h1, h2, h3, Option.bind_some, zm2, z00, z10, ce, and_self, if_true, if_false]
      exact ⟨_, _, rfl, rfl, rfl, hR0⟩
    · simp only [h1, h2, h3, h4, Option.bind_some, zm3, z00, z10, ce, and_self, if_true, if_false]
      exact ⟨_, _, rfl, rfl, rfl, hR0⟩
    · obtain ⟨hn1, -, -, f1, g1⟩ := hD.num hi e1
      obtain ⟨hn2, -, -, f2, g2⟩ := hD.num hj e2
      obtain ⟨k, rfl⟩ : ∃ k : Nat, e = (k : Int) := ⟨e.toNat, by omega⟩
      obtain ⟨⟨sq, hs⟩, hp⟩ := s_raise hN hB hn2.eb (z := (a, b)) hn1.eb (k := k) (by omega)
      rw [h1, h2, h3, h4]
      simp only [Option.bind_some, ce, and_self, z00, z10, if_true, if_false, dr_cl hi, dr_n0 hi, dr_8 hi, dr_cl hj, dr_n0 hj, dr_8 hj, or_self, f1, f2, g1, g2, iI_l hn1.b32.1, iI_l hn1.b32.2, iI_l hn2.b32.1, iI_l hn2.b32.2, h5, hs, hp]
      obtain ⟨r, r1, r2⟩ := s_part2 v4 (lI (rs H W S (epw (a, b) k)).1) (lI (rs H W S (epw (a, b) k)).2)
      rw [r1, r2, Option.bind_some, Option.bind_some]
      exact ⟨_, _, rfl, rfl, rfl, hR0⟩
  · have cA : ∀ {α : Type} {P R : Option α}, (if e < 0 then P else if e ≤ 1000000000 then R else P) = P := by
      intro α P R
      by_cases c1 : e < 0
      · rw [if_pos c1]
      · rw [if_neg c1, if_neg (by omega)]
    rw [cA]
    simp only [ce, if_false, Option.bind_some]
    rcases oc_cases hN hD v1 v3 v4 m_modulus_step m_modulus_width m_modulus_slant m_one_a m_one_b m_two_a m_two_b with ⟨y, h1, h2⟩ | ⟨y, h1, h2, h3⟩ | ⟨y, h1, h2, h3, h4⟩ | ⟨i, j, a, b, c, d, H, W, S, hi, hj, rfl, rfl, hv, e1, e2, h0, hB, h1, h2, h3, h4, h5⟩
    · simp only [h2, Option.bind_some, z00, if_true]; exact ⟨_, _, rfl, rfl, rfl, hR0⟩
    · simp only [h2, Option.bind_some, z00, z10, if_true, if_false]; exact ⟨_, _, rfl, rfl, rfl, hR0⟩
    · simp only [h2, Option.bind_some, z00, z10, if_true, if_false]; exact ⟨_, _, rfl, rfl, rfl, hR0⟩
    · simp only [h2, Option.bind_some, z00, z10, if_true, if_false]; exact ⟨_, _, rfl, rfl, rfl, hR0⟩
/-- the inverse as both sides find it: no larger than 100000 -/
theorem s_invert {N : Nat} (hN : 1048576 ≤ N) {a b c d : Int} (hx : eb (a, b)) (hy : eb (c, d)) : (¬ cop (a, b) (c, d) ∧ (∀ (qa qb : Int64) (QA QB : Nat → Int64) (oa ob : Int64), ∃ y, f_X1_invert N qa qb QA QB (lI a) (lI b) (lI c) (lI d) oa ob = some (0, y)) ∧ (∀ ra rb : Int64, ∃ ra' rb' : Int64, f_X11_arePrimeTo N (lI a) (lI b) (lI c) (lI d) ra rb = some (0, ra', rb'))) ∨ ∃ z : Int × Int, cop (a, b) (c, d) ∧ ed (c, d) (esb (em z (a, b)) (1, 0)) ∧ ((-100000 ≤ z.1 ∧ z.1 ≤ 100000) ∧ (-100000 ≤ z.2 ∧ z.2 ≤ 100000)) ∧ (∀ (qa qb : Int64) (QA QB : Nat → Int64) (oa ob : Int64), ∃ (y1 : Int32) (y2 y3 y4 y5 y6 y7 y8 y9 y10 y11 y12 y13 y14 y15 : Int64) (y16 y17 : Nat → Int64), f_X1_invert N qa qb QA QB (lI a) (lI b) (lI c) (lI d) oa ob = some (1, y1, y2, y3, y4, y5, y6, y7, y8, y9, y10, y11, y12, y13, y14, y15, y16, y17, lI z.1, lI z.2)) ∧ (∀ ra rb : Int64, ∃ ra' rb' : Int64, f_X11_arePrimeTo N (lI a) (lI b) (lI c) (lI d) ra rb = some (1, ra', rb')) ∧ ∀ (ra rb qa qb : Int64), ∃ y, f_X11_inverts N (lI a) (lI b) (lI c) (lI d) ra rb qa qb = some (lI z.1, lI z.2, y) := by
  obtain ⟨v, n, hv, hn, hz, hi, hvi, hC, hA, hP⟩ := s_primeTo hN hx hy
  rcases hv with rfl | rfl
  · left
    refine ⟨fun z => absurd (hvi.mpr ((cop_iff hz).mpr z)) (by decide), fun qa qb QA QB oa ob => ?_, hA⟩
    obtain ⟨qa', qb', QA', QB', e⟩ := hC qa qb QA QB
    unfold f_X1_invert
    rw [e, Option.bind_some, if_pos rfl]
    exact ⟨_, rfl⟩
  · right
    have hu := hvi.mp rfl
    have hs := eS_small (x := (a, b)) (y := (c, d)) hy hi
    refine ⟨em (ec (eX (a, b) (c, d) n).1) (eS (a, b) (c, d) n).1, (cop_iff hz).mp hu, ?_, en_parts ?_, fun qa qb QA QB oa ob => ?_, hA, fun ra rb qa qb => ?_⟩
    · have e := (eX_comb (a, b) (c, d) n).1
      have e2 : em (ec (eX (a, b) (c, d) n).1) (eX (a, b) (c, d) n).1 = (1, 0) := by rw [em_comm]; exact en_unit hu
      have e3 : em (em (ec (eX (a, b) (c, d) n).1) (eS (a, b) (c, d) n).1) (a, b) = esb (1, 0) (em (em (ec (eX (a, b) (c, d) n).1) (eT (a, b) (c, d) n).1) (c, d)) := by
        rw [← e2]
        conv => rhs; arg 1; arg 2; rw [e]
        rw [em_add, em_assoc, em_assoc]
        unfold ead esb
        exact e_ext (by simp only []; omega) (by simp only []; omega)
      rw [e3]
      have e4 : ∀ u : Int × Int, esb (esb (1, 0) u) (1, 0) = esb (0, 0) u := by
        intro u; unfold esb; exact e_ext (by simp only []; omega) (by simp only []; omega)
      rw [e4]
      exact ed_sub (ed_zero _) (ed_mul' _ _)
    · rw [en_em, en_ec, hu, Int.one_mul]; exact hs
    · obtain ⟨qa', qb', QA', QB', e⟩ := hC qa qb QA QB
      unfold f_X1_invert f_X5_copy f_X5_turn f_X5_set
      rw [e, Option.bind_some, if_neg j1, Option.bind_some, Option.bind_some, Option.bind_some]
      simp only [ePart, lI_sub, lI_neg, s_multiply, Option.bind_some]
      exact ⟨_, _, _, _, _, _, _, _, _, _, _, _, _, _, _, _, _, rfl⟩
    · obtain ⟨ra', rb', qa', qb', e⟩ := hP (-1) ra rb qa qb
      unfold f_X11_inverts
      rw [e, Option.bind_some]
      simp only [lI_sub, lI_neg, s_times, Option.bind_some]
      have e2 : em (ec (eX (a, b) (c, d) n).1) (eS (a, b) (c, d) n).1 = em (eS (a, b) (c, d) n).1 (ec (eX (a, b) (c, d) n).1) := em_comm _ _
      rw [e2]
      exact ⟨_, rfl⟩
theorem q_inverse (N : Nat) (hN : 1048576 ≤ N) (v1 v2 v3 : Int32) (m_drawers_full m_drawers_kept : Int32) (m_drawers_partA m_drawers_partB m_drawers_keptA m_drawers_keptB m_drawers_keptFull : Nat → Int32) (m_tape_size : Int32) (m_tape_bytes : Nat → Int32) (m_euclid_count : Int32) (m_euclid_last_a m_euclid_last_b m_euclid_lastOfFirst_a m_euclid_lastOfFirst_b m_euclid_lastOfSecond_a m_euclid_lastOfSecond_b m_euclid_next_a m_euclid_next_b m_euclid_nextOfFirst_a m_euclid_nextOfFirst_b m_euclid_nextOfSecond_a m_euclid_nextOfSecond_b m_euclid_q_a m_euclid_q_b : Int64) (m_euclid_quotientA m_euclid_quotientB : Nat → Int64) (m_modulus_step m_modulus_width m_modulus_slant : Int64) (m_primes_count : Int32) (m_primes_primeA m_primes_primeB : Nat → Int32) (m_one_a m_one_b m_two_a m_two_b m_out_a m_out_b : Int64) (m_taped m_states : Int32) (m_ra m_rb m_boxWide m_boxHigh m_boxStep : Int64) (m_partingMany : Int32) (m_qa m_qb m_la m_lb m_sa m_sb m_ta m_tb : Int64) (m_listed : Int32) (m_tape m_has m_keptHas m_first m_second m_keptFirst m_keptSecond m_la0 m_lb0 : Nat → Int32) (hR : kR m_drawers_full m_drawers_kept m_drawers_partA m_drawers_partB m_drawers_keptA m_drawers_keptB m_drawers_keptFull m_tape_size m_tape_bytes m_primes_count m_primes_primeA m_primes_primeB m_taped m_tape m_has m_keptHas m_first m_second m_keptFirst m_keptSecond m_states m_la0 m_lb0 m_listed) : ∃ (y : Int32 × Int32 × Int64 × Int64 × Int64 × Int64 × Int64 × Int64 × Int64 × Int64 × Int64 × Int64 × Int64 × Int64 × Int64 × Int64 × (Nat → Int64) × (Nat → Int64) × Int64 × Int64 × Int64 × Int64 × Int64 × Int64 × Int64 × Int64 × Int64) (z : Int32 × Int64 × Int64 × Int64 × Int64 × Int64 × Int32 × Int64 × Int64 × Int64 × Int64 × Int64 × Int64 × Int64 × Int64), f_X10_inverse N v1 v2 v3 m_drawers_full m_drawers_partA m_drawers_partB m_euclid_count m_euclid_last_a m_euclid_last_b m_euclid_lastOfFirst_a m_euclid_lastOfFirst_b m_euclid_lastOfSecond_a m_euclid_lastOfSecond_b m_euclid_next_a m_euclid_next_b m_euclid_nextOfFirst_a m_euclid_nextOfFirst_b m_euclid_nextOfSecond_a m_euclid_nextOfSecond_b m_euclid_q_a m_euclid_q_b m_euclid_quotientA m_euclid_quotientB m_modulus_step m_modulus_width m_modulus_slant m_one_a m_one_b m_two_a m_two_b m_out_a m_out_b = some y ∧ f_X11_inverse N v1 v2 v3 m_ra m_rb m_boxWide m_boxHigh m_boxStep m_partingMany m_qa m_qb m_la m_lb m_sa m_sb m_ta m_tb m_has m_first m_second = some z ∧ y.1 = z.1 ∧ kR m_drawers_full m_drawers_kept m_drawers_partA m_drawers_partB m_drawers_keptA m_drawers_keptB m_drawers_keptFull m_tape_size m_tape_bytes m_primes_count m_primes_primeA m_primes_primeB m_taped m_tape m_has m_keptHas m_first m_second m_keptFirst m_keptSecond m_states m_la0 m_lb0 m_listed := by
  have hR0 := hR
  obtain ⟨⟨dr, hD⟩, hK, hT, hP⟩ := hR
  unfold f_X10_inverse f_X11_inverse
  rcases oc_cases hN hD v1 v2 v3 m_modulus_step m_modulus_width m_modulus_slant m_one_a m_one_b m_two_a m_two_b with ⟨y, h1, h2⟩ | ⟨y, h1, h2, h3⟩ | ⟨y, h1, h2, h3, h4⟩ | ⟨i, j, a, b, c, d, H, W, S, hi, hj, rfl, rfl, hv, e1, e2, h0, hB, h1, h2, h3, h4, h5⟩
  · simp only [h1, h2, Option.bind_some, zm1, z00, if_true, if_false]
    exact ⟨_, _, rfl, rfl, rfl, hR0⟩
  · simp only [h1, h2, h3, Option.bind_some, zm2, z00, z10, if_true, if_false]
    exact ⟨_, _, rfl, rfl, rfl, hR0⟩
  · simp only [h1, h2, h3, h4, Option.bind_some, zm3, z00, z10, if_true, if_false]
    exact ⟨_, _, rfl, rfl, rfl, hR0⟩
  · obtain ⟨hn1, -, -, f1, g1⟩ := hD.num hi e1
    obtain ⟨hn2, -, -, f2, g2⟩ := hD.num hj e2
    rw [h1, h2, h3, h4]
    rcases s_invert hN hn1.eb hn2.eb with ⟨-, k1, k2⟩ | ⟨z, -, -, kz, k1, k2, k3⟩
    · obtain ⟨y, k1⟩ := k1 m_euclid_q_a m_euclid_q_b m_euclid_quotientA m_euclid_quotientB m_out_a m_out_b
      obtain ⟨ra', rb', k2⟩ := k2 m_ra m_rb
      simp only [Option.bind_some, z00, z10, if_true, if_false, dr_cl hi, dr_n0 hi, dr_8 hi, dr_cl hj, dr_n0 hj, dr_8 hj, or_self, f1, f2, g1, g2, iI_l hn1.b32.1, iI_l hn1.b32.2, iI_l hn2.b32.1, iI_l hn2.b32.2, h5, k1, k2]
      exact ⟨_, _, rfl, rfl, rfl, hR0⟩
    · obtain ⟨y1, y2, y3, y4, y5, y6, y7, y8, y9, y10, y11, y12, y13, y14, y15, y16, y17, k1⟩ := k1 m_euclid_q_a m_euclid_q_b m_euclid_quotientA m_euclid_quotientB m_out_a m_out_b
      obtain ⟨ra', rb', k2⟩ := k2 m_ra m_rb
      obtain ⟨y', k3⟩ := k3 ra' rb' m_qa m_qb
      have k := small_ok hB hn2.eb (x := z.1) (y := z.2) ⟨by omega, by omega⟩ ⟨by omega, by omega⟩
      simp only [Option.bind_some, z00, z10, if_true, if_false, dr_cl hi, dr_n0 hi, dr_8 hi, dr_cl hj, dr_n0 hj, dr_8 hj, or_self, f1, f2, g1, g2, iI_l hn1.b32.1, iI_l hn1.b32.2, iI_l hn2.b32.1, iI_l hn2.b32.2, h5, k1, k2, k3, s_reduce hB hn2.eb k.1 k.2.1, s_boxes hB hn2.eb k.1 k.2.2]
      obtain ⟨r, r1, r2⟩ := s_part2 v3 (lI (rs H W S (z.1, z.2)).1) (lI (rs H W S (z.1, z.2)).2)
      rw [r1, r2, Option.bind_some, Option.bind_some]
      exact ⟨_, _, rfl, rfl, rfl, hR0⟩
