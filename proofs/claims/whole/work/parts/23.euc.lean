/-! ===== two numbers parted by each other ===== -/
def eX (x y : Int × Int) : Nat → (Int × Int) × (Int × Int)
  | 0 => (x, y)
  | i + 1 => ((eX x y i).2, er (eX x y i).1 (eX x y i).2)
def eQ (x y : Int × Int) (i : Nat) : Int × Int := eq_ (eX x y i).1 (eX x y i).2
def eS (x y : Int × Int) : Nat → (Int × Int) × (Int × Int)
  | 0 => ((1, 0), (0, 0))
  | i + 1 => ((eS x y i).2, esb (eS x y i).1 (em (eQ x y i) (eS x y i).2))
def eT (x y : Int × Int) : Nat → (Int × Int) × (Int × Int)
  | 0 => ((0, 0), (1, 0))
  | i + 1 => ((eT x y i).2, esb (eT x y i).1 (em (eQ x y i) (eT x y i).2))
theorem eX_norm (x y : Int × Int) : ∀ i : Nat, (∀ j, j < i → (eX x y j).2 ≠ (0, 0)) → 4 ^ i * en (eX x y i).2 ≤ 3 ^ i * en y := by
  intro i
  induction i with
  | zero => intro _; simp only [eX, Int.pow_zero]; omega
  | succ i ih =>
    intro h
    have h1 := ih (fun j hj => h j (by omega))
    have h2 := er_norm (x := (eX x y i).1) (h i (by omega))
    have h3 : (0 : Int) ≤ 4 ^ i := Int.pow_nonneg (by decide)
    have h4 := Int.mul_le_mul_of_nonneg_left h2 h3
    have e1 : (4 : Int) ^ (i + 1) * en (eX x y (i + 1)).2 = 4 ^ i * (4 * en (er (eX x y i).1 (eX x y i).2)) := by
      simp only [eX, Int.pow_succ]; grind
    have e2 : (4 : Int) ^ i * (3 * en (eX x y i).2) = 3 * (4 ^ i * en (eX x y i).2) := by grind
    have e3 : (3 : Int) ^ (i + 1) * en y = 3 * (3 ^ i * en y) := by rw [Int.pow_succ]; grind
    omega
theorem e_end (x : Int × Int) {y : Int × Int} (hy : eb y) : ∃ n, n ≤ 100 ∧ (eX x y n).2 = (0, 0) ∧ ∀ i, i < n → (eX x y i).2 ≠ (0, 0) := by
  have fin : ∀ m : Nat, (∃ n, n ≤ m ∧ (eX x y n).2 = (0, 0) ∧ ∀ i, i < n → (eX x y i).2 ≠ (0, 0)) ∨ ∀ i, i ≤ m → (eX x y i).2 ≠ (0, 0) := by
    intro m
    induction m with
    | zero =>
      by_cases c : (eX x y 0).2 = (0, 0)
      · exact Or.inl ⟨0, Nat.le_refl _, c, fun i hi => by omega⟩
      · refine Or.inr fun i hi => ?_
        obtain rfl : i = 0 := by omega
        exact c
    | succ m ih =>
      rcases ih with ⟨n, h1, h2, h3⟩ | h
      · exact Or.inl ⟨n, by omega, h2, h3⟩
      · by_cases c : (eX x y (m + 1)).2 = (0, 0)
        · exact Or.inl ⟨m + 1, Nat.le_refl _, c, fun i hi => h i (by omega)⟩
        · refine Or.inr fun i hi => ?_
          by_cases e : i = m + 1
          · rw [e]; exact c
          · exact h i (by omega)
  rcases fin 100 with h | h
  · exact h
  · exfalso
    have h1 := eX_norm x y 100 (fun j hj => h j (by omega))
    have h2 := en_pos (h 100 (by omega))
    unfold eb at hy
    have c1 : (3 : Int) ^ 100 * 300000000 < 4 ^ 100 := by decide
    have c2 : (0 : Int) ≤ 3 ^ 100 := by decide
    have c3 : (0 : Int) ≤ 4 ^ 100 := by decide
    have h3 := Int.mul_le_mul_of_nonneg_left hy c2
    have h4 := Int.mul_le_mul_of_nonneg_left h2 c3
    omega
theorem eX_eb {x y : Int × Int} (hx : eb x) (hy : eb y) : ∀ i : Nat, (∀ j, j < i → (eX x y j).2 ≠ (0, 0)) → eb (eX x y i).1 ∧ eb (eX x y i).2 := by
  intro i
  induction i with
  | zero => intro _; exact ⟨hx, hy⟩
  | succ i ih =>
    intro h
    have h1 := ih (fun j hj => h j (by omega))
    exact ⟨h1.2, er_eb h1.2 (h i (by omega))⟩
def ePart (x y : Int × Int) (n : Nat) (qa qb : Int64) (QA QB : Nat → Int64) : Int32 × Int64 × Int64 × Int64 × Int64 × Int64 × Int64 × Int64 × Int64 × Int64 × Int64 × Int64 × Int64 × Int64 × Int64 × (Nat → Int64) × (Nat → Int64) :=
  (nI n, lI (eX x y n).1.1, lI (eX x y n).1.2, lI (eS x y n).1.1, lI (eS x y n).1.2, lI (eT x y n).1.1, lI (eT x y n).1.2, lI (eX x y n).2.1, lI (eX x y n).2.2, lI (eS x y n).2.1, lI (eS x y n).2.2, lI (eT x y n).2.1, lI (eT x y n).2.2, qa, qb, QA, QB)
theorem s_goOn (q s u : Int × Int) : f_X1_goOn (lI q.1) (lI q.2) (lI s.1) (lI s.2) (lI u.1) (lI u.2) = some (lI u.1, lI u.2, lI (esb s (em q u)).1, lI (esb s (em q u)).2) := by
  unfold f_X1_goOn
  have e : em q u = em u q := em_comm q u
  rw [e]
  simp only [lI_mul, lI_sub, lI_add, em, esb]
theorem ne_not {x : Int × Int} (h : x ≠ (0, 0)) : ¬ (x.1 = 0 ∧ x.2 = 0) := fun z => h (e_ext z.1 z.2)
section EUC
variable {x y : Int × Int} {n : Nat}
theorem part_loop (N : Nat) (hx : eb x) (hy : eb y) (hn : n ≤ 100) (hz : (eX x y n).2 = (0, 0)) (hi : ∀ i, i < n → (eX x y i).2 ≠ (0, 0)) : ∀ (m i : Nat), i + m = n → ∀ k : Nat, m < k → ∀ (qa qb : Int64) (QA QB : Nat → Int64), (∀ j, j < i → QA j = lI (eQ x y j).1 ∧ QB j = lI (eQ x y j).2) → ∃ (qa' qb' : Int64) (QA' QB' : Nat → Int64), f_X1_part_59 N k (nI i) (nI i) (lI (eX x y i).1.1) (lI (eX x y i).1.2) (lI (eS x y i).1.1) (lI (eS x y i).1.2) (lI (eT x y i).1.1) (lI (eT x y i).1.2) (lI (eX x y i).2.1) (lI (eX x y i).2.2) (lI (eS x y i).2.1) (lI (eS x y i).2.2) (lI (eT x y i).2.1) (lI (eT x y i).2.2) qa qb QA QB = some (ePart x y n qa' qb' QA' QB') ∧ ∀ j, j < n → QA' j = lI (eQ x y j).1 ∧ QB' j = lI (eQ x y j).2 := by
  intro m
  induction m with
  | zero =>
    intro i hin k hk qa qb QA QB hQ
    obtain rfl : i = n := by omega
    obtain ⟨k, rfl⟩ : ∃ k', k = k' + 1 := ⟨k - 1, by omega⟩
    refine ⟨qa, qb, QA, QB, ?_, hQ⟩
    have e1 : f_X5_isNought (lI (eX x y i).2.1) (lI (eX x y i).2.2) = some 1 := by rw [hz]; decide
    rw [f_X1_part_59, if_neg (show ¬ (128 : Int32) ≤ nI i from nI_ge (b := 128) (by omega) (by decide)), e1, Option.bind_some, if_neg (by decide)]
    rfl
  | succ m ih =>
    intro i hin k hk qa qb QA QB hQ
    obtain ⟨k, rfl⟩ : ∃ k', k = k' + 1 := ⟨k - 1, by omega⟩
    have hne := hi i (by omega)
    have hb := eX_eb hx hy i (fun j hj => hi j (by omega))
    have b2 := eb_64 (a := (eX x y i).2.1) (b := (eX x y i).2.2) hb.2
    have e1 := s_isNought b2.1 b2.2
    rw [if_neg (ne_not hne)] at e1
    have e2 := s_bq (a := (eX x y i).1.1) (b := (eX x y i).1.2) (c := (eX x y i).2.1) (d := (eX x y i).2.2) hb.1 hb.2 hne
    have hq : (eq_ ((eX x y i).1.1, (eX x y i).1.2) ((eX x y i).2.1, (eX x y i).2.2)) = eQ x y i := rfl
    rw [hq] at e2
    rw [f_X1_part_59, if_neg (show ¬ (128 : Int32) ≤ nI i from nI_ge (b := 128) (by omega) (by decide)), e1, Option.bind_some, if_pos rfl, e2, Option.bind_some, if_neg (nI_in (show i < 128 by omega) (by decide)), if_neg (nI_in (show i < 128 by omega) (by decide))]
    simp only [s_goOn, Option.bind_some, nI_1, nI_clamp (show i < 2 ^ 31 by omega)]
    refine ih (i + 1) (by omega) k (by omega) _ _ _ _ ?_
    intro j hj
    by_cases e : j = i
    · subst e; simp [vp_updL]
    · have := hQ j (by omega)
      simp only [vp_updL, e, if_false]; exact this
theorem parted_loop (N : Nat) (hx : eb x) (hy : eb y) (hn : n ≤ 100) (hz : (eX x y n).2 = (0, 0)) (hi : ∀ i, i < n → (eX x y i).2 ≠ (0, 0)) (v9 : Int32) : ∀ (m i : Nat), i + m = n → ∀ k : Nat, m < k → ∀ (ra rb qa qb : Int64), (∀ j, j < i → v9 = nI j → qa = lI (eQ x y j).1 ∧ qb = lI (eQ x y j).2) → ∃ (ra' rb' qa' qb' : Int64), f_X11_parted_51 N k v9 (lI (eX x y i).1.1) (lI (eX x y i).1.2) (lI (eX x y i).2.1) (lI (eX x y i).2.2) (lI (eS x y i).2.1) (lI (eS x y i).2.2) (lI (eT x y i).2.1) (lI (eT x y i).2.2) ra rb (nI i) qa qb (lI (eS x y i).1.1) (lI (eS x y i).1.2) (lI (eT x y i).1.1) (lI (eT x y i).1.2) = some (ra', rb', nI n, qa', qb', lI (eX x y n).1.1, lI (eX x y n).1.2, lI (eS x y n).1.1, lI (eS x y n).1.2, lI (eT x y n).1.1, lI (eT x y n).1.2) ∧ ∀ j, j < n → v9 = nI j → qa' = lI (eQ x y j).1 ∧ qb' = lI (eQ x y j).2 := by
  intro m
  induction m with
  | zero =>
    intro i hin k hk ra rb qa qb hQ
    obtain rfl : i = n := by omega
    obtain ⟨k, rfl⟩ : ∃ k', k = k' + 1 := ⟨k - 1, by omega⟩
    refine ⟨ra, rb, qa, qb, ?_, hQ⟩
    have e1 : lI (eX x y i).2.1 = 0 := by rw [hz]; rfl
    have e2 : lI (eX x y i).2.2 = 0 := by rw [hz]; rfl
    rw [f_X11_parted_51, if_pos e1, if_pos e2]
  | succ m ih =>
    intro i hin k hk ra rb qa qb hQ
    obtain ⟨k, rfl⟩ : ∃ k', k = k' + 1 := ⟨k - 1, by omega⟩
    have hne := hi i (by omega)
    have hb := eX_eb hx hy i (fun j hj => hi j (by omega))
    have b2 := eb_64 (a := (eX x y i).2.1) (b := (eX x y i).2.2) hb.2
    have e2 := s_parts (a := (eX x y i).1.1) (b := (eX x y i).1.2) (c := (eX x y i).2.1) (d := (eX x y i).2.2) hb.1 hb.2 hne
    have hq : (eq_ ((eX x y i).1.1, (eX x y i).1.2) ((eX x y i).2.1, (eX x y i).2.2)) = eQ x y i := rfl
    rw [hq] at e2
    have key : ∃ (ra' rb' qa' qb' : Int64), f_X11_parted_65 N (f_X11_parted_51 N k) v9 (lI (eX x y i).1.1) (lI (eX x y i).1.2) (lI (eX x y i).2.1) (lI (eX x y i).2.2) (lI (eS x y i).2.1) (lI (eS x y i).2.2) (lI (eT x y i).2.1) (lI (eT x y i).2.2) (nI i) qa qb (lI (eS x y i).1.1) (lI (eS x y i).1.2) (lI (eT x y i).1.1) (lI (eT x y i).1.2) = some (ra', rb', nI n, qa', qb', lI (eX x y n).1.1, lI (eX x y n).1.2, lI (eS x y n).1.1, lI (eS x y n).1.2, lI (eT x y n).1.1, lI (eT x y n).1.2) ∧ ∀ j, j < n → v9 = nI j → qa' = lI (eQ x y j).1 ∧ qb' = lI (eQ x y j).2 := by
      unfold f_X11_parted_65 f_X11_parted_110
      simp only [e2, Option.bind_some, s_times, lI_sub, nI_1]
      by_cases c : nI i = v9
      · rw [if_pos c]
        refine ih (i + 1) (by omega) k (by omega) _ _ _ _ ?_
        intro j hj hv
        rw [← c] at hv
        have := (nI_eq (by omega) (by omega)).mp hv
        subst this
        exact ⟨rfl, rfl⟩
      · rw [if_neg c]
        refine ih (i + 1) (by omega) k (by omega) _ _ _ _ ?_
        intro j hj hv
        have hne : j ≠ i := fun z => c (by rw [hv, z])
        exact hQ j (by omega) hv
    rw [f_X11_parted_51]
    by_cases c1 : lI (eX x y i).2.1 = 0
    · rw [if_pos c1]
      by_cases c2 : lI (eX x y i).2.2 = 0
      · exfalso; exact hne (e_ext ((lI_0 b2.1).mp c1) ((lI_0 b2.2).mp c2))
      · rw [if_neg c2]; exact key
    · rw [if_neg c1]; exact key
theorem commons_loop (N : Nat) (hx : eb x) (hy : eb y) (hz : (eX x y n).2 = (0, 0)) (hi : ∀ i, i < n → (eX x y i).2 ≠ (0, 0)) : ∀ (m i : Nat), i + m = n → ∀ k : Nat, m < k → f_X11_commons_14 N k (lI (eX x y i).1.1) (lI (eX x y i).1.2) (lI (eX x y i).2.1) (lI (eX x y i).2.2) = some (lI (eX x y n).1.1, lI (eX x y n).1.2) := by
  intro m
  induction m with
  | zero =>
    intro i hin k hk
    obtain rfl : i = n := by omega
    obtain ⟨k, rfl⟩ : ∃ k', k = k' + 1 := ⟨k - 1, by omega⟩
    have e1 : lI (eX x y i).2.1 = 0 := by rw [hz]; rfl
    have e2 : lI (eX x y i).2.2 = 0 := by rw [hz]; rfl
    rw [f_X11_commons_14, if_pos e1, if_pos e2, f_X11_sets, Option.bind_some]
  | succ m ih =>
    intro i hin k hk
    obtain ⟨k, rfl⟩ : ∃ k', k = k' + 1 := ⟨k - 1, by omega⟩
    have hne := hi i (by omega)
    have hb := eX_eb hx hy i (fun j hj => hi j (by omega))
    have b2 := eb_64 (a := (eX x y i).2.1) (b := (eX x y i).2.2) hb.2
    have e2 := s_rests (a := (eX x y i).1.1) (b := (eX x y i).1.2) (c := (eX x y i).2.1) (d := (eX x y i).2.2) hb.1 hb.2 hne
    have key : f_X11_commons_28 N (f_X11_commons_14 N k) (lI (eX x y i).1.1) (lI (eX x y i).1.2) (lI (eX x y i).2.1) (lI (eX x y i).2.2) = some (lI (eX x y n).1.1, lI (eX x y n).1.2) := by
      unfold f_X11_commons_28
      rw [e2, Option.bind_some]
      exact ih (i + 1) (by omega) k (by omega)
    rw [f_X11_commons_14]
    by_cases c1 : lI (eX x y i).2.1 = 0
    · rw [if_pos c1]
      by_cases c2 : lI (eX x y i).2.2 = 0
      · exfalso; exact hne (e_ext ((lI_0 b2.1).mp c1) ((lI_0 b2.2).mp c2))
      · rw [if_neg c2]; exact key
    · rw [if_neg c1]; exact key
end EUC
/-- how often the two are parted -/
theorem s_euclid {N : Nat} (hN : 1048576 ≤ N) {x y : Int × Int} (hx : eb x) (hy : eb y) : ∃ n : Nat, n ≤ 100 ∧ (eX x y n).2 = (0, 0) ∧ (∀ i, i < n → (eX x y i).2 ≠ (0, 0)) ∧ (∀ (qa qb : Int64) (QA QB : Nat → Int64), ∃ (qa' qb' : Int64) (QA' QB' : Nat → Int64), f_X1_part N qa qb QA QB (lI x.1) (lI x.2) (lI y.1) (lI y.2) = some (ePart x y n qa' qb' QA' QB') ∧ ∀ j, j < n → QA' j = lI (eQ x y j).1 ∧ QB' j = lI (eQ x y j).2) ∧ (∀ (v9 : Int32) (ra rb qa qb : Int64), ∃ (ra' rb' qa' qb' : Int64), f_X11_parted N (lI x.1) (lI x.2) (lI y.1) (lI y.2) v9 ra rb qa qb = some (ra', rb', nI n, qa', qb', lI (eX x y n).1.1, lI (eX x y n).1.2, lI (eS x y n).1.1, lI (eS x y n).1.2, lI (eT x y n).1.1, lI (eT x y n).1.2) ∧ ∀ j, j < n → v9 = nI j → qa' = lI (eQ x y j).1 ∧ qb' = lI (eQ x y j).2) ∧ f_X11_commons N (lI x.1) (lI x.2) (lI y.1) (lI y.2) = some (lI (eX x y n).1.1, lI (eX x y n).1.2) := by
  obtain ⟨n, hn, hz, hi⟩ := e_end x hy
  refine ⟨n, hn, hz, hi, ?_, ?_, ?_⟩
  · intro qa qb QA QB
    unfold f_X1_part f_X5_copy f_X5_set
    simp only [Option.bind_some]
    exact part_loop N hx hy hn hz hi n 0 (by omega) N (by omega) qa qb QA QB (fun j hj => by omega)
  · intro v9 ra rb qa qb
    unfold f_X11_parted
    exact parted_loop N hx hy hn hz hi v9 n 0 (by omega) N (by omega) ra rb qa qb (fun j hj => by omega)
  · unfold f_X11_commons
    exact commons_loop N hx hy hz hi n 0 (by omega) N (by omega)
