/-! ===== two numbers parted, one of them large ===== -/
def ebw (x : Int × Int) : Prop := en x ≤ 90000000000000000
theorem eb_w {x : Int × Int} (h : eb x) : ebw x := Int.le_trans h (by decide)
theorem ebw_bd {a b : Int} (h : ebw (a, b)) : (-400000000 ≤ a ∧ a ≤ 400000000) ∧ (-400000000 ≤ b ∧ b ≤ 400000000) := by
  have h' : nrm a b ≤ 90000000000000000 := h
  have e := nrm4 a b
  have e' := nrm4' a b
  have s1 := sq_nn (2 * a - b)
  have s2 := sq_nn (2 * b - a)
  exact ⟨sq_lt (M := 400000000) (by decide) (by omega), sq_lt (M := 400000000) (by decide) (by omega)⟩
theorem ebw_64 {a b : Int} (h : ebw (a, b)) : b64 a ∧ b64 b := by
  have := ebw_bd h
  exact ⟨⟨by omega, by omega⟩, ⟨by omega, by omega⟩⟩
theorem big_bdw {a b c d : Int} (hx : ebw (a, b)) (hy : ebw (c, d)) : (-600000000000000000 ≤ a * (c - d) + b * d ∧ a * (c - d) + b * d ≤ 600000000000000000) ∧ (-600000000000000000 ≤ b * c - a * d ∧ b * c - a * d ≤ 600000000000000000) := by
  obtain ⟨⟨a1, a2⟩, ⟨b1, b2⟩⟩ := ebw_bd hx
  obtain ⟨⟨c1, c2⟩, ⟨d1, d2⟩⟩ := ebw_bd hy
  have m1 := mul_bd (a := a) (b := c) (M := 400000000) (K := 400000000) (by omega) (by omega) (by omega) (by omega)
  have m2 := mul_bd (a := a) (b := d) (M := 400000000) (K := 400000000) (by omega) (by omega) (by omega) (by omega)
  have m3 := mul_bd (a := b) (b := d) (M := 400000000) (K := 400000000) (by omega) (by omega) (by omega) (by omega)
  have m4 := mul_bd (a := b) (b := c) (M := 400000000) (K := 400000000) (by omega) (by omega) (by omega) (by omega)
  have e : a * (c - d) = a * c - a * d := by grind
  omega
theorem s_bqw {a b c d : Int} (hx : ebw (a, b)) (hy : ebw (c, d)) (h0 : (c, d) ≠ (0, 0)) : f_X5_becomeQuotient (lI a) (lI b) (lI c) (lI d) = some (lI (eq_ (a, b) (c, d)).1, lI (eq_ (a, b) (c, d)).2) := by
  have hp := en_pos h0
  have hp' : 1 ≤ nrm c d := hp
  have hq : nrm c d ≤ 90000000000000000 := hy
  obtain ⟨⟨g1, g2⟩, ⟨g3, g4⟩⟩ := big_bdw hx hy
  have c1 : ((1 : Int64) ≤ lI (nrm c d)) = True := eq_true (by rw [l1, lI_le ⟨by decide, by decide⟩ ⟨by omega, by omega⟩]; exact hp)
  unfold f_X5_becomeQuotient
  simp only [s_norm, Option.bind_some, c1, if_true, l2, lI_mul, lI_sub, lI_add]
  rw [s_floorDiv ⟨by omega, by omega⟩ (by omega) ⟨by omega, by omega⟩, Option.bind_some, s_floorDiv ⟨by omega, by omega⟩ (by omega) ⟨by omega, by omega⟩, Option.bind_some]
  unfold eq_ rnd
  rw [em_ec1, em_ec2]; rfl
theorem s_nearestTow {v m : Int} (hv : -600000000000000000 ≤ v ∧ v ≤ 600000000000000000) (hm : 1 ≤ m) (hm' : m ≤ 90000000000000000) : f_X11_nearestTo (lI v) (lI m) = some (lI (rnd v m)) := by
  unfold f_X11_nearestTo
  simp only [l2, lI_mul, lI_add]
  rw [s_down ⟨by omega, by omega⟩ (by omega) ⟨by omega, by omega⟩, Option.bind_some]; rfl
theorem s_partsw {a b c d : Int} (hx : ebw (a, b)) (hy : ebw (c, d)) (h0 : (c, d) ≠ (0, 0)) : f_X11_parts (lI a) (lI b) (lI c) (lI d) = some (lI (eq_ (a, b) (c, d)).1, lI (eq_ (a, b) (c, d)).2) := by
  have hp := en_pos h0
  have hp' : 1 ≤ nrm c d := hp
  have hq : nrm c d ≤ 90000000000000000 := hy
  obtain ⟨⟨g1, g2⟩, ⟨g3, g4⟩⟩ := big_bdw hx hy
  have e1 := em_ec1 a b c d
  have e2 := em_ec2 a b c d
  have e0 : (c - d, -d) = ec (c, d) := rfl
  unfold f_X11_parts
  simp only [s_normX, Option.bind_some, lI_sub, lI_neg, s_times, f_X11_sets, e0]
  rw [s_nearestTow ⟨by omega, by omega⟩ (by omega) (by omega), Option.bind_some, s_nearestTow ⟨by omega, by omega⟩ (by omega) (by omega), Option.bind_some]
  rfl
theorem s_restsw {a b c d : Int} (hx : ebw (a, b)) (hy : ebw (c, d)) (h0 : (c, d) ≠ (0, 0)) : f_X11_rests (lI a) (lI b) (lI c) (lI d) = some (lI (er (a, b) (c, d)).1, lI (er (a, b) (c, d)).2) := by
  unfold f_X11_rests
  simp only [s_partsw hx hy h0, Option.bind_some, s_times, f_X11_sets, lI_sub]
  rfl
theorem er_ebw {x y : Int × Int} (hy : ebw y) (h0 : y ≠ (0, 0)) : ebw (er x y) := by
  have h1 := er_norm (x := x) h0
  have h2 := en_nn (er x y)
  unfold ebw at hy ⊢
  omega
theorem eX_ebw {x y : Int × Int} (hx : ebw x) (hy : ebw y) : ∀ i : Nat, (∀ j, j < i → (eX x y j).2 ≠ (0, 0)) → ebw (eX x y i).1 ∧ ebw (eX x y i).2 := by
  intro i
  induction i with
  | zero => intro _; exact ⟨hx, hy⟩
  | succ i ih =>
    intro h
    have h1 := ih (fun j hj => h j (by omega))
    exact ⟨h1.2, er_ebw h1.2 (h i (by omega))⟩
theorem e_endw (x : Int × Int) {y : Int × Int} (hy : ebw y) : ∃ n, n ≤ 200 ∧ (eX x y n).2 = (0, 0) ∧ ∀ i, i < n → (eX x y i).2 ≠ (0, 0) := by
  by_cases c : ∃ n, n ≤ 200 ∧ (eX x y n).2 = (0, 0)
  · obtain ⟨n, n1, n2⟩ := c
    obtain ⟨k, k1, k2, k3⟩ := least_ex (P := fun k => (eX x y k).2 = (0, 0)) n n2
    exact ⟨k, by omega, k2, k3⟩
  · exfalso
    have h : ∀ i, i ≤ 200 → (eX x y i).2 ≠ (0, 0) := fun i hi z => c ⟨i, hi, z⟩
    have h1 := eX_norm x y 200 (fun j hj => h j (by omega))
    have h2 := en_pos (h 200 (by omega))
    unfold ebw at hy
    have c1 : (3 : Int) ^ 200 * 90000000000000000 < 4 ^ 200 := by decide
    have c2 : (0 : Int) ≤ 3 ^ 200 := by decide
    have c3 : (0 : Int) ≤ 4 ^ 200 := by decide
    have h3 := Int.mul_le_mul_of_nonneg_left hy c2
    have h4 := Int.mul_le_mul_of_nonneg_left h2 c3
    omega
theorem part_loopw (N : Nat) {x y : Int × Int} {n : Nat} (hx : ebw x) (hy : ebw y) (hn : n ≤ 100) (hz : (eX x y n).2 = (0, 0)) (hi : ∀ i, i < n → (eX x y i).2 ≠ (0, 0)) : ∀ (m i : Nat), i + m = n → ∀ k : Nat, m < k → ∀ (qa qb : Int64) (QA QB : Nat → Int64), ∃ (qa' qb' : Int64) (QA' QB' : Nat → Int64), f_X1_part_59 N k (nI i) (nI i) (lI (eX x y i).1.1) (lI (eX x y i).1.2) (lI (eS x y i).1.1) (lI (eS x y i).1.2) (lI (eT x y i).1.1) (lI (eT x y i).1.2) (lI (eX x y i).2.1) (lI (eX x y i).2.2) (lI (eS x y i).2.1) (lI (eS x y i).2.2) (lI (eT x y i).2.1) (lI (eT x y i).2.2) qa qb QA QB = some (ePart x y n qa' qb' QA' QB') := by
  intro m
  induction m with
  | zero =>
    intro i hin k hk qa qb QA QB
    obtain rfl : i = n := by omega
    obtain ⟨k, rfl⟩ : ∃ k', k = k' + 1 := ⟨k - 1, by omega⟩
    refine ⟨qa, qb, QA, QB, ?_⟩
    have e1 : f_X5_isNought (lI (eX x y i).2.1) (lI (eX x y i).2.2) = some 1 := by rw [hz]; decide
    rw [f_X1_part_59, if_neg (show ¬ (128 : Int32) ≤ nI i from nI_ge (b := 128) (by omega) (by decide)), e1, Option.bind_some, if_neg (by decide)]
    rfl
  | succ m ih =>
    intro i hin k hk qa qb QA QB
    obtain ⟨k, rfl⟩ : ∃ k', k = k' + 1 := ⟨k - 1, by omega⟩
    have hne := hi i (by omega)
    have hb := eX_ebw hx hy i (fun j hj => hi j (by omega))
    have b2 := ebw_64 (a := (eX x y i).2.1) (b := (eX x y i).2.2) hb.2
    have e1 := s_isNought b2.1 b2.2
    rw [if_neg (ne_not hne)] at e1
    have e2 := s_bqw (a := (eX x y i).1.1) (b := (eX x y i).1.2) (c := (eX x y i).2.1) (d := (eX x y i).2.2) hb.1 hb.2 hne
    have hq : (eq_ ((eX x y i).1.1, (eX x y i).1.2) ((eX x y i).2.1, (eX x y i).2.2)) = eQ x y i := rfl
    rw [hq] at e2
    rw [f_X1_part_59, if_neg (show ¬ (128 : Int32) ≤ nI i from nI_ge (b := 128) (by omega) (by decide)), e1, Option.bind_some, if_pos rfl, e2, Option.bind_some, if_neg (nI_in (show i < 128 by omega) (by decide)), if_neg (nI_in (show i < 128 by omega) (by decide))]
    simp only [s_goOn, Option.bind_some, nI_1, nI_clamp (show i < 2 ^ 31 by omega)]
    exact ih (i + 1) (by omega) k (by omega) _ _ _ _
theorem commons_loopw (N : Nat) {x y : Int × Int} {n : Nat} (hx : ebw x) (hy : ebw y) (hz : (eX x y n).2 = (0, 0)) (hi : ∀ i, i < n → (eX x y i).2 ≠ (0, 0)) : ∀ (m i : Nat), i + m = n → ∀ k : Nat, m < k → f_X11_commons_14 N k (lI (eX x y i).1.1) (lI (eX x y i).1.2) (lI (eX x y i).2.1) (lI (eX x y i).2.2) = some (lI (eX x y n).1.1, lI (eX x y n).1.2) := by
  intro m
  induction m with
  | zero =>
    intro i hin k hk
    obtain rfl : i = n := by omega
    obtain ⟨k, rfl⟩ : ∃ k', k = k' + 1 := ⟨k - 1, by omega⟩
    have e1 : lI (eX x y i).2.1 = 0 := by rw [hz]; rfl
    have e2 : lI (eX x y i).2.2 = 0 := by rw [hz]; rfl
    rw [f_X11_commons_14, if_pos e1, if_pos e2, f_X11_sets, Option.bind_some]
  | succ m ih =>
    intro i hin k hk
    obtain ⟨k, rfl⟩ : ∃ k', k = k' + 1 := ⟨k - 1, by omega⟩
    have hne := hi i (by omega)
    have hb := eX_ebw hx hy i (fun j hj => hi j (by omega))
    have b2 := ebw_64 (a := (eX x y i).2.1) (b := (eX x y i).2.2) hb.2
    have e2 := s_restsw (a := (eX x y i).1.1) (b := (eX x y i).1.2) (c := (eX x y i).2.1) (d := (eX x y i).2.2) hb.1 hb.2 hne
    have key : f_X11_commons_28 N (f_X11_commons_14 N k) (lI (eX x y i).1.1) (lI (eX x y i).1.2) (lI (eX x y i).2.1) (lI (eX x y i).2.2) = some (lI (eX x y n).1.1, lI (eX x y n).1.2) := by
      unfold f_X11_commons_28
      rw [e2, Option.bind_some]
      exact ih (i + 1) (by omega) k (by omega)
    rw [f_X11_commons_14]
    by_cases c1 : lI (eX x y i).2.1 = 0
    · rw [if_pos c1]
      by_cases c2 : lI (eX x y i).2.2 = 0
      · exfalso; exact hne (e_ext ((lI_0 b2.1).mp c1) ((lI_0 b2.2).mp c2))
      · rw [if_neg c2]; exact key
    · rw [if_neg c1]; exact key
/-- the last rest: it divides both and is made of both -/
theorem eX_gcd {x y : Int × Int} {n : Nat} (hz : (eX x y n).2 = (0, 0)) : ed (eX x y n).1 x ∧ ed (eX x y n).1 y ∧ ∃ u v, (eX x y n).1 = ead (em u x) (em v y) := by
  have h := eX_back (x := x) (y := y) (d := (eX x y n).1) n (ed_refl _) (by rw [hz]; exact ed_zero _)
  exact ⟨h.1, h.2, _, _, (eX_comb x y n).1⟩
theorem s_commonsw {N : Nat} (hN : 1048576 ≤ N) {x y : Int × Int} (hx : ebw x) (hy : ebw y) : ∃ g : Int × Int, ed g x ∧ ed g y ∧ (∃ u v, g = ead (em u x) (em v y)) ∧ f_X11_commons N (lI x.1) (lI x.2) (lI y.1) (lI y.2) = some (lI g.1, lI g.2) := by
  obtain ⟨n, hn, hz, hi⟩ := e_endw x hy
  obtain ⟨g1, g2, g3⟩ := eX_gcd hz
  refine ⟨(eX x y n).1, g1, g2, g3, ?_⟩
  unfold f_X11_commons
  exact commons_loopw N hx hy hz hi n 0 (by omega) N (by omega)
theorem s_partw {N : Nat} (hN : 1048576 ≤ N) {x y : Int × Int} (hx : ebw x) (hy : eb y) : ∃ g : Int × Int, ed g x ∧ ed g y ∧ (∃ u v, g = ead (em u x) (em v y)) ∧ ∀ (qa qb : Int64) (QA QB : Nat → Int64), ∃ (c : Int32) (z : Int64 × Int64 × Int64 × Int64 × Int64 × Int64 × Int64 × Int64 × Int64 × Int64 × Int64 × Int64 × (Nat → Int64) × (Nat → Int64)), f_X1_part N qa qb QA QB (lI x.1) (lI x.2) (lI y.1) (lI y.2) = some (c, lI g.1, lI g.2, z) := by
  obtain ⟨n, hn, hz, hi⟩ := e_end x hy
  obtain ⟨g1, g2, g3⟩ := eX_gcd hz
  refine ⟨(eX x y n).1, g1, g2, g3, fun qa qb QA QB => ?_⟩
  obtain ⟨qa', qb', QA', QB', e⟩ := part_loopw N hx (eb_w hy) hn hz hi n 0 (by omega) N (by omega) qa qb QA QB
  have k : f_X1_part N qa qb QA QB (lI x.1) (lI x.2) (lI y.1) (lI y.2) = some (ePart x y n qa' qb' QA' QB') := by
    unfold f_X1_part f_X5_copy f_X5_set
    simp only [Option.bind_some]
    exact e
  exact ⟨_, _, k⟩
/-- of a whole prime and a number whose norm it divides -/
theorem gcd_norm {p : Nat} (hp : rp p) {x g : Int × Int} (hx : ((p : Int)) ∣ en x) (h1 : ed g x) (h2 : ed g ((p : Int), 0)) (h3 : ∃ u v, g = ead (em u x) (em v ((p : Int), 0))) : en g = p ∨ (en g = (p : Int) * p ∧ ed ((p : Int), 0) x) := by
  have hp2 := hp.1
  have ep2 : en ((p : Int), 0) = (p : Int) * p := by unfold en nrm; simp
  obtain ⟨q, hq⟩ := h2
  obtain ⟨a, ha⟩ := en_nat g
  obtain ⟨b, hb⟩ := en_nat q
  have hm := en_em g q
  rw [← hq, ep2, ha, hb] at hm
  have hm' : p * p = a * b := by
    have : ((p * p : Nat) : Int) = ((a * b : Nat) : Int) := by rw [Int.natCast_mul, hm, Int.natCast_mul]
    omega
  -- the norm is no 1
  have n1 : a ≠ 1 := by
    intro z
    obtain ⟨u, v, e⟩ := h3
    have c : cop x ((p : Int), 0) := cop_of_unit e (by rw [ha, z]; rfl)
    obtain ⟨t, ht⟩ := hx
    have d : ed ((p : Int), 0) (em x (ec x)) := ⟨(t, 0), by rw [em_ec, ht]; exact e_ext (by simp [em]) (by simp [em])⟩
    obtain ⟨r, hr⟩ := cop_cancel c d
    have : x = em ((p : Int), 0) (ec r) := by
      have h := congrArg ec hr
      rw [ec_ec, ec_em] at h
      rw [h]
      congr 1
    have c2 : ed ((p : Int), 0) (1, 0) := by
      obtain ⟨u', v', e'⟩ := c
      rw [← e']
      exact ed_add (ed_mull ⟨ec r, this⟩ _) (ed_mull (ed_refl _) _)
    have := ed_1 c2
    rw [ep2] at this
    have := Int.mul_le_mul (show (2 : Int) ≤ p by omega) (show (2 : Int) ≤ p by omega) (by decide) (by omega)
    omega
  have key : a = p ∨ a = p * p := by
    rcases rp_mul hp (show p ∣ a * b from ⟨p, hm'.symm⟩) with ⟨c, hc⟩ | ⟨c, hc⟩
    · have e : p = c * b := by
        have : p * p = p * (c * b) := by rw [hm', hc, Nat.mul_assoc]
        exact Nat.eq_of_mul_eq_mul_left (by omega) this
      rcases hp.2 c ⟨b, e⟩ with z | z
      · left; rw [hc, z, Nat.mul_one]
      · right; rw [hc, z]
    · have e : p = c * a := by
        have : p * p = p * (c * a) := by rw [hm', hc, Nat.mul_comm a, Nat.mul_assoc]
        exact Nat.eq_of_mul_eq_mul_left (by omega) this
      rcases hp.2 a ⟨c, by rw [e, Nat.mul_comm]⟩ with z | z
      · exact absurd z n1
      · exact Or.inl z
  rcases key with z | z
  · left; rw [ha, z]
  · right
    refine ⟨by rw [ha, z, Int.natCast_mul], ?_⟩
    have b1 : b = 1 := by
      rw [z] at hm'
      have : 0 < p * p := Nat.mul_pos (by omega) (by omega)
      have : p * p * b = p * p * 1 := by omega
      exact Nat.eq_of_mul_eq_mul_left (by omega) this
    have hq1 : en q = 1 := by rw [hb, b1]; rfl
    have : ed ((p : Int), 0) g := ⟨ec q, by rw [hq, em_assoc, en_unit hq1, em_one']⟩
    exact ed_trans this h1
