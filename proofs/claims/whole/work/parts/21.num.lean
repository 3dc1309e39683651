/-! ===== single numbers on both sides ===== -/
def eb (x : Int × Int) : Prop := en x ≤ 300000000
theorem kNum.eb {a b : Int} (h : kNum a b) : eb (a, b) := by
  obtain ⟨h1, h2, h3, h4⟩ := h
  have := nrm_le (a := a) (b := b) (M := 9999) (by omega) (by omega) (by omega) (by omega)
  show nrm a b ≤ _
  omega
theorem sq_lt {a M : Int} (hM : 0 ≤ M) (h : a * a ≤ M * M) : -M ≤ a ∧ a ≤ M := by
  constructor
  · by_cases c : -M ≤ a
    · exact c
    · have := Int.mul_pos (show 0 < -a - M by omega) (show 0 < -a + M by omega)
      have e : (-a - M) * (-a + M) = a * a - M * M := by grind
      omega
  · by_cases c : a ≤ M
    · exact c
    · have := Int.mul_pos (show 0 < a - M by omega) (show 0 < a + M by omega)
      have e : (a - M) * (a + M) = a * a - M * M := by grind
      omega
theorem eb_bd {a b : Int} (h : eb (a, b)) : (-20000 ≤ a ∧ a ≤ 20000) ∧ (-20000 ≤ b ∧ b ≤ 20000) := by
  have h' : nrm a b ≤ 300000000 := h
  have e := nrm4 a b
  have e' := nrm4' a b
  have s1 := sq_nn (2 * a - b)
  have s2 := sq_nn (2 * b - a)
  exact ⟨sq_lt (M := 20000) (by decide) (by omega), sq_lt (M := 20000) (by decide) (by omega)⟩
theorem s_times (a b c d : Int) : f_X11_times (lI a) (lI b) (lI c) (lI d) = some (lI (em (a, b) (c, d)).1, lI (em (a, b) (c, d)).2) := by
  unfold f_X11_times f_X11_sets em
  simp only [lI_mul, lI_sub, lI_add, Option.bind_some]
theorem s_multiply (a b c d : Int) : f_X5_multiply (lI a) (lI b) (lI c) (lI d) = some (lI (em (a, b) (c, d)).1, lI (em (a, b) (c, d)).2) := by
  unfold f_X5_multiply em
  simp only [lI_mul, lI_sub, lI_add]
theorem big_bd {a b c d : Int} (hx : eb (a, b)) (hy : eb (c, d)) : (-1200000000 ≤ a * (c - d) + b * d ∧ a * (c - d) + b * d ≤ 1200000000) ∧ (-1200000000 ≤ b * c - a * d ∧ b * c - a * d ≤ 1200000000) := by
  obtain ⟨⟨a1, a2⟩, ⟨b1, b2⟩⟩ := eb_bd hx
  obtain ⟨⟨c1, c2⟩, ⟨d1, d2⟩⟩ := eb_bd hy
  have m1 := mul_bd (a := a) (b := c) (M := 20000) (K := 20000) (by omega) (by omega) (by omega) (by omega)
  have m2 := mul_bd (a := a) (b := d) (M := 20000) (K := 20000) (by omega) (by omega) (by omega) (by omega)
  have m3 := mul_bd (a := b) (b := d) (M := 20000) (K := 20000) (by omega) (by omega) (by omega) (by omega)
  have m4 := mul_bd (a := b) (b := c) (M := 20000) (K := 20000) (by omega) (by omega) (by omega) (by omega)
  have e : a * (c - d) = a * c - a * d := by grind
  omega
theorem em_ec1 (a b c d : Int) : (em (a, b) (ec (c, d))).1 = a * (c - d) + b * d := by simp only [em, ec]; grind
theorem em_ec2 (a b c d : Int) : (em (a, b) (ec (c, d))).2 = b * c - a * d := by simp only [em, ec]; grind
theorem s_bq {a b c d : Int} (hx : eb (a, b)) (hy : eb (c, d)) (h0 : (c, d) ≠ (0, 0)) : f_X5_becomeQuotient (lI a) (lI b) (lI c) (lI d) = some (lI (eq_ (a, b) (c, d)).1, lI (eq_ (a, b) (c, d)).2) := by
  have hp := en_pos h0
  have hp' : 1 ≤ nrm c d := hp
  have hq : nrm c d ≤ 300000000 := hy
  obtain ⟨⟨g1, g2⟩, ⟨g3, g4⟩⟩ := big_bd hx hy
  have c1 : ((1 : Int64) ≤ lI (nrm c d)) = True := eq_true (by rw [l1, lI_le ⟨by decide, by decide⟩ ⟨by omega, by omega⟩]; exact hp)
  unfold f_X5_becomeQuotient
  simp only [s_norm, Option.bind_some, c1, if_true, l2, lI_mul, lI_sub, lI_add]
  rw [s_floorDiv ⟨by omega, by omega⟩ (by omega) ⟨by omega, by omega⟩, Option.bind_some, s_floorDiv ⟨by omega, by omega⟩ (by omega) ⟨by omega, by omega⟩, Option.bind_some]
  unfold eq_ rnd
  rw [em_ec1, em_ec2]; rfl
theorem s_nearestTo {v m : Int} (hv : -2000000000 ≤ v ∧ v ≤ 2000000000) (hm : 1 ≤ m) (hm' : m ≤ 300000000) : f_X11_nearestTo (lI v) (lI m) = some (lI (rnd v m)) := by
  unfold f_X11_nearestTo
  simp only [l2, lI_mul, lI_add]
  rw [s_down ⟨by omega, by omega⟩ (by omega) ⟨by omega, by omega⟩, Option.bind_some]; rfl
theorem s_parts {a b c d : Int} (hx : eb (a, b)) (hy : eb (c, d)) (h0 : (c, d) ≠ (0, 0)) : f_X11_parts (lI a) (lI b) (lI c) (lI d) = some (lI (eq_ (a, b) (c, d)).1, lI (eq_ (a, b) (c, d)).2) := by
  have hp := en_pos h0
  have hp' : 1 ≤ nrm c d := hp
  have hq : nrm c d ≤ 300000000 := hy
  obtain ⟨⟨g1, g2⟩, ⟨g3, g4⟩⟩ := big_bd hx hy
  have e1 := em_ec1 a b c d
  have e2 := em_ec2 a b c d
  have e0 : (c - d, -d) = ec (c, d) := rfl
  unfold f_X11_parts
  simp only [s_normX, Option.bind_some, lI_sub, lI_neg, s_times, f_X11_sets, e0]
  rw [s_nearestTo ⟨by omega, by omega⟩ (by omega) (by omega), Option.bind_some, s_nearestTo ⟨by omega, by omega⟩ (by omega) (by omega), Option.bind_some]
  rfl
theorem s_rests {a b c d : Int} (hx : eb (a, b)) (hy : eb (c, d)) (h0 : (c, d) ≠ (0, 0)) : f_X11_rests (lI a) (lI b) (lI c) (lI d) = some (lI (er (a, b) (c, d)).1, lI (er (a, b) (c, d)).2) := by
  unfold f_X11_rests
  simp only [s_parts hx hy h0, Option.bind_some, s_times, f_X11_sets, lI_sub]
  rfl
theorem er_eb {x y : Int × Int} (hy : eb y) (h0 : y ≠ (0, 0)) : eb (er x y) := by
  have h := er_norm (x := x) h0
  have h1 := en_nn (er x y)
  unfold eb at hy ⊢
  omega
theorem eb_64 {a b : Int} (h : eb (a, b)) : b64 a ∧ b64 b := by
  obtain ⟨⟨h1, h2⟩, ⟨h3, h4⟩⟩ := eb_bd h
  exact ⟨⟨by omega, by omega⟩, ⟨by omega, by omega⟩⟩
theorem eb_32 {a b : Int} (h : eb (a, b)) : b32 a ∧ b32 b := by
  obtain ⟨⟨h1, h2⟩, ⟨h3, h4⟩⟩ := eb_bd h
  exact ⟨⟨by omega, by omega⟩, ⟨by omega, by omega⟩⟩
/-! ===== primary numbers, threes ===== -/
def prim (x : Int × Int) : Prop := x.1 % 3 = 2 ∧ x.2 % 3 = 0
theorem s_isPrimary {a b : Int} (ha : b64 a) (hb : b64 b) : f_X5_isPrimary (lI a) (lI b) = some (if a % 3 = 2 ∧ b % 3 = 0 then 1 else 0) := by
  have b3 : b64 3 := ⟨by decide, by decide⟩
  have h1 := Int.emod_nonneg a (show (3 : Int) ≠ 0 by decide)
  have h2 := Int.emod_lt_of_pos a (show (0 : Int) < 3 by decide)
  have ht : (b.tmod 3 = 0) ↔ b % 3 = 0 := by
    rw [← Int.dvd_iff_tmod_eq_zero, Int.dvd_iff_emod_eq_zero]
  have hb3 : b64 (b.tmod 3) := by have := tm_bounds (a := b) (show (0 : Int) < 3 by decide); exact ⟨by omega, by omega⟩
  have k1 : (lI (a % 3) = 2) = (a % 3 = 2) := propext (by rw [l2]; exact lI_eq ⟨by omega, by omega⟩ ⟨by decide, by decide⟩)
  unfold f_X5_isPrimary
  rw [l3, s_floorMod ha (by decide) b3, Option.bind_some, lI_rem hb b3]
  simp only [k1, lI_0 hb3, ht]
  by_cases c1 : a % 3 = 2
  · by_cases c2 : b % 3 = 0
    · rw [if_pos c1, if_pos c2, if_pos ⟨c1, c2⟩]
    · rw [if_pos c1, if_neg c2, if_neg (fun z => c2 z.2)]
  · rw [if_neg c1, if_neg (fun z => c1 z.1)]
theorem s_isPrimaryX {a b : Int} (ha : b64 a) (hb : b64 b) : f_X11_isPrimary (lI a) (lI b) = some (if a % 3 = 2 ∧ b % 3 = 0 then 1 else 0) := by
  have b3 : b64 3 := ⟨by decide, by decide⟩
  have h1 := Int.emod_nonneg a (show (3 : Int) ≠ 0 by decide)
  have h2 := Int.emod_lt_of_pos a (show (0 : Int) < 3 by decide)
  have h3 := Int.emod_nonneg b (show (3 : Int) ≠ 0 by decide)
  have h4 := Int.emod_lt_of_pos b (show (0 : Int) < 3 by decide)
  have k1 : (lI (a % 3) = 2) = (a % 3 = 2) := propext (by rw [l2]; exact lI_eq ⟨by omega, by omega⟩ ⟨by decide, by decide⟩)
  have k2 : (lI (b % 3) = 0) = (b % 3 = 0) := propext (lI_0 ⟨by omega, by omega⟩)
  unfold f_X11_isPrimary
  rw [l3, s_rest ha (by decide) b3, Option.bind_some, s_rest hb (by decide) b3, Option.bind_some]
  simp only [k1, k2]
  by_cases c1 : a % 3 = 2
  · by_cases c2 : b % 3 = 0
    · rw [if_pos c1, if_pos c2, if_pos ⟨c1, c2⟩]
    · rw [if_pos c1, if_neg c2, if_neg (fun z => c2 z.2)]
  · rw [if_neg c1, if_neg (fun z => c1 z.1)]
theorem s_isOfThree {a b : Int} (h : b64 (a + b)) : f_X5_isOfThree (lI a) (lI b) = some (if (a + b) % 3 = 0 then 1 else 0) := by
  have b3 : b64 3 := ⟨by decide, by decide⟩
  have ht : ((a + b).tmod 3 = 0) ↔ (a + b) % 3 = 0 := by
    rw [← Int.dvd_iff_tmod_eq_zero, Int.dvd_iff_emod_eq_zero]
  have hb3 : b64 ((a + b).tmod 3) := by have := tm_bounds (a := a + b) (show (0 : Int) < 3 by decide); exact ⟨by omega, by omega⟩
  unfold f_X5_isOfThree
  rw [l3, lI_add, lI_rem h b3]
  simp only [lI_0 hb3, ht]
  by_cases c : (a + b) % 3 = 0
  · rw [if_pos c, if_pos c]
  · rw [if_neg c, if_neg c]
theorem s_isThree {a b : Int} (h : b64 (a + b)) : f_X11_isThree (lI a) (lI b) = some (if (a + b) % 3 = 0 then 1 else 0) := s_isOfThree h
/-- times the unit 1 + w so often -/
def eit : Nat → Int × Int → Int × Int
  | 0, x => x
  | k + 1, x => eit k (em x (1, 1))
theorem em_u (a b : Int) : em (a, b) (1, 1) = (a - b, a) := by
  apply e_ext <;> simp only [em] <;> omega
theorem en_u (x : Int × Int) : en (em x (1, 1)) = en x := by
  rw [en_em]; have : en (1, 1) = 1 := rfl
  rw [this]; omega
theorem en_eit : ∀ (k : Nat) (x : Int × Int), en (eit k x) = en x
  | 0, _ => rfl
  | k + 1, x => by rw [eit, en_eit k, en_u]
theorem s_mbu1 (N k : Nat) (a b : Int) : ∀ (m i u : Nat), i + m = u → u ≤ 6 → m < k → f_X5_multiplyByUnit_2 N k (nI u) (nI i) (lI a) (lI b) = some (lI (eit m (a, b)).1, lI (eit m (a, b)).2) := by
  induction k generalizing a b with
  | zero => intro m i u h1 h2 h3; omega
  | succ k ih =>
    intro m i u h1 h2 h3
    rw [f_X5_multiplyByUnit_2]
    cases m with
    | zero =>
      obtain rfl : i = u := by omega
      rw [if_pos (nI_le (Nat.le_refl _) (by omega))]; rfl
    | succ m =>
      rw [if_neg (nI_ge (by omega) (by omega)), if_neg (show ¬ (6 : Int32) ≤ nI i from nI_ge (b := 6) (by omega) (by decide)), nI_1, lI_sub, ih (a - b) a m (i + 1) u (by omega) h2 (by omega), eit, em_u]
theorem s_mbu {N : Nat} (hN : 1048576 ≤ N) (a b : Int) {u : Nat} (hu : u ≤ 6) : f_X5_multiplyByUnit N (nI u) (lI a) (lI b) = some (lI (eit u (a, b)).1, lI (eit u (a, b)).2) :=
  s_mbu1 N N a b u 0 u (by omega) hu (by omega)
theorem s_ut1 (N k : Nat) (a b : Int) : ∀ (m i u : Nat), i + m = u → u < 2147483648 → m < k → f_X11_unitTimes_9 N k (nI u) (nI i) (lI a) (lI b) = some (lI (eit m (a, b)).1, lI (eit m (a, b)).2) := by
  induction k generalizing a b with
  | zero => intro m i u h1 h2 h3; omega
  | succ k ih =>
    intro m i u h1 h2 h3
    rw [f_X11_unitTimes_9]
    cases m with
    | zero =>
      obtain rfl : i = u := by omega
      rw [if_pos (nI_le (Nat.le_refl _) (by omega))]; rfl
    | succ m =>
      rw [if_neg (nI_ge (by omega) (by omega)), nI_1, l1, s_times, Option.bind_some]
      rw [ih _ _ m (i + 1) u (by omega) h2 (by omega), eit]
theorem s_ut {N : Nat} (a b : Int) {u : Nat} (hu : u < N) (hu' : u < 2147483648) : f_X11_unitTimes N (lI a) (lI b) (nI u) = some (lI (eit u (a, b)).1, lI (eit u (a, b)).2) := by
  unfold f_X11_unitTimes f_X11_sets
  rw [Option.bind_some]
  exact s_ut1 N N a b u 0 u (by omega) hu' (by omega)
/-- which power of the unit makes it primary -/
theorem prim_ex {x : Int × Int} (h : (x.1 + x.2) % 3 ≠ 0) : ∃ i, i < 6 ∧ prim (eit i x) ∧ ∀ j, j < i → ¬ prim (eit j x) := by
  obtain ⟨a, b⟩ := x
  simp only at h
  have ha : a % 3 = 0 ∨ a % 3 = 1 ∨ a % 3 = 2 := by omega
  have hb : b % 3 = 0 ∨ b % 3 = 1 ∨ b % 3 = 2 := by omega
  have e0 : eit 0 (a, b) = (a, b) := rfl
  have e1 : eit 1 (a, b) = (a - b, a) := by show em (a, b) (1, 1) = _; rw [em_u]
  have e2 : eit 2 (a, b) = (a - b - a, a - b) := by show em (em (a, b) (1, 1)) (1, 1) = _; rw [em_u, em_u]
  have e3 : eit 3 (a, b) = (a - b - a - (a - b), a - b - a) := by show em (em (em (a, b) (1, 1)) (1, 1)) (1, 1) = _; rw [em_u, em_u, em_u]
  have e4 : eit 4 (a, b) = (a - b - a - (a - b) - (a - b - a), a - b - a - (a - b)) := by show em (em (em (em (a, b) (1, 1)) (1, 1)) (1, 1)) (1, 1) = _; rw [em_u, em_u, em_u, em_u]
  have e5 : eit 5 (a, b) = (a - b - a - (a - b) - (a - b - a) - (a - b - a - (a - b)), a - b - a - (a - b) - (a - b - a)) := by show em (em (em (em (em (a, b) (1, 1)) (1, 1)) (1, 1)) (1, 1)) (1, 1) = _; rw [em_u, em_u, em_u, em_u, em_u]
  have fin : ∀ i, i < 6 → prim (eit i (a, b)) → ∃ i, i < 6 ∧ prim (eit i (a, b)) ∧ ∀ j, j < i → ¬ prim (eit j (a, b)) := by
    intro i
    induction i using Nat.strongRecOn with
    | _ i ih =>
      intro hi hp
      by_cases c : ∃ j, j < i ∧ prim (eit j (a, b))
      · obtain ⟨j, hj, hq⟩ := c
        exact ih j hj (by omega) hq
      · exact ⟨i, hi, hp, fun j hj hq => c ⟨j, hj, hq⟩⟩
  unfold prim at fin ⊢
  rcases ha with ha | ha | ha <;> rcases hb with hb | hb | hb
  · omega
  · exact fin 1 (by decide) (by rw [e1]; simp only; omega)
  · exact fin 4 (by decide) (by rw [e4]; simp only; omega)
  · exact fin 3 (by decide) (by rw [e3]; simp only; omega)
  · exact fin 2 (by decide) (by rw [e2]; simp only; omega)
  · omega
  · exact fin 0 (by decide) (by rw [e0]; simp only; omega)
  · omega
  · exact fin 5 (by decide) (by rw [e5]; simp only; omega)
