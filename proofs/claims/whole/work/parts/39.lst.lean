/-! ===== the list of primary primes: the reference's, and the class's ===== -/
theorem pl_prime_iff {n : Nat} (hn : n ≤ 2000) : pl_prime n = true ↔ rp n := by
  unfold pl_prime
  simp only [Bool.and_eq_true, decide_eq_true_eq, List.all_eq_true, List.mem_range, Bool.or_eq_true]
  constructor
  · rintro ⟨h2, h⟩
    obtain ⟨k, hk⟩ := lp_ex h2
    rw [lp_iff hk (by omega)]
    rcases lp_sq (by omega) hk with z | z
    · exact z
    · exfalso
      have k45 : k < 45 := by
        by_cases c : k < 45
        · exact c
        · have := Nat.mul_le_mul (show 45 ≤ k by omega) (show 45 ≤ k by omega); omega
      have := hk.1
      rcases h k k45 with (y | y) | y
      · omega
      · omega
      · exact y (Nat.mod_eq_zero_of_dvd hk.2.1)
  · intro r
    refine ⟨r.1, fun d hd => ?_⟩
    by_cases c2 : d < 2
    · exact Or.inl (Or.inl c2)
    by_cases c3 : n < d * d
    · exact Or.inl (Or.inr c3)
    right
    intro z
    rcases r.2 d (Nat.dvd_of_mod_eq_zero z) with y | y
    · omega
    · subst y
      have : d * 2 ≤ d * d := Nat.mul_le_mul_left d (by omega)
      omega
def pl_ok (n : Nat) (r : Int × Int) : Bool := decide (0 < r.2 ∧ r.2 % 3 = 0 ∧ r.1 % 3 = 2 ∧ nrm r.1 r.2 = n) && (List.range 18).all (fun j => decide (r.2 ≤ ((3 * (j + 1) : Nat) : Int)) || (List.range 90).all (fun s' => decide (s' * s' + 3 * (3 * (j + 1)) * (3 * (j + 1)) ≠ 4 * n)))
def pl_chk (n : Nat) : Bool := !(pl_prime n) || decide (n % 3 ≠ 1) || pl_ok n (pl_split n)
theorem pl_two : ∀ i, i < 21 → ∀ j, j < 100 → (100 * i + j < 7 ∨ 2000 < 100 * i + j ∨ pl_chk (100 * i + j) = true) := by decide +kernel
theorem pl_all (n : Nat) (h : n < 2001) : n < 7 ∨ pl_chk n = true := by
  have := pl_two (n / 100) (by omega) (n % 100) (by omega)
  rw [show 100 * (n / 100) + n % 100 = n by omega] at this
  rcases this with z | z | z
  · exact Or.inl z
  · omega
  · exact Or.inr z
theorem pl_len : kPL.length = 303 := by decide +kernel
theorem pl_split_eq {n b s : Nat} (h7 : 7 ≤ n) (hn : n ≤ 2000) (hr : rp n) (h3 : n % 3 = 1) (h : isSpl n b s) : pl_split n = (spA b s, (b : Int)) := by
  have hc : pl_chk n = true := by
    rcases pl_all n (by omega) with z | z
    · omega
    · exact z
  unfold pl_chk pl_ok at hc
  simp only [(pl_prime_iff hn).mpr hr, Bool.not_true, Bool.false_or, Bool.or_eq_true, decide_eq_true_eq, Bool.and_eq_true, List.all_eq_true, List.mem_range] at hc
  rcases hc with z | ⟨⟨c1, c2, c3, c4⟩, c5⟩
  · omega
  obtain ⟨r, hr'⟩ : ∃ r, r = pl_split n := ⟨_, rfl⟩
  rw [← hr'] at c1 c2 c3 c4 c5 ⊢
  obtain ⟨a, b'⟩ := r
  simp only [] at c1 c2 c3 c4 c5
  obtain ⟨B, rfl⟩ := Int.eq_ofNat_of_zero_le (show 0 ≤ b' by omega)
  have sp : isSpl n B (2 * a - B).natAbs := by
    have e4 : (((2 * a - B).natAbs * (2 * a - B).natAbs + 3 * B * B : Nat) : Int) = ((4 * n : Nat) : Int) := by
      rw [Int.natCast_add, Int.natCast_mul, Int.natAbs_mul_self' (2 * a - B)]
      have := nrm4 a B
      rw [c4] at this
      simp only [Int.natCast_mul, Int.cast_ofNat_Int]
      have q : 3 * (B : Int) * B = 3 * ((B : Int) * B) := by grind
      rw [q, ← this]
    refine ⟨by omega, by omega, by omega, fun b'' p1 p2 p3 s'' e => ?_⟩
    have s90 : s'' < 90 := by
      by_cases c : s'' < 90
      · exact c
      · have := Nat.mul_le_mul (show 90 ≤ s'' by omega) (show 90 ≤ s'' by omega); omega
    have b54 : b'' ≤ 54 := by
      by_cases c : b'' ≤ 54
      · exact c
      · have := Nat.mul_le_mul (show 55 ≤ b'' by omega) (show 55 ≤ b'' by omega)
        have q : 3 * b'' * b'' = 3 * (b'' * b'') := by grind
        omega
    obtain ⟨j, hj⟩ : ∃ j, b'' = 3 * (j + 1) := ⟨b'' / 3 - 1, by omega⟩
    rcases c5 j (by omega) with z | z
    · omega
    · rw [hj] at e
      exact z s'' s90 e
  obtain ⟨e1, e2⟩ := spl_uniq h sp
  subst e1
  refine e_ext ?_ rfl
  show a = spA b s
  unfold spA
  by_cases c : 0 ≤ 2 * a - b
  · have : (b + s) / 2 = a.toNat := by omega
    rw [this, if_pos (by omega)]; omega
  · have : (b + s) / 2 = ((b : Int) - a).toNat := by omega
    rw [this, if_neg (by omega)]; omega
theorem flt_one (P : Nat → Bool) (q : Nat) : ∀ m : Nat, (∀ x, x < m → (P x = true ↔ x = q)) → (List.range m).filter P = if q < m then [q] else [] := by
  intro m
  induction m with
  | zero => intro _; rfl
  | succ m ih =>
    intro h
    rw [List.range_succ, List.filter_append, ih (fun x hx => h x (by omega))]
    by_cases c : m = q
    · subst c
      have : P m = true := (h m (by omega)).mpr rfl
      rw [if_neg (by omega), if_pos (by omega), List.filter_cons_of_pos this]
      rfl
    · have : ¬ P m = true := fun z => c ((h m (by omega)).mp z)
      rw [List.filter_cons_of_neg this]
      by_cases d : q < m
      · rw [if_pos d, if_pos (by omega)]; rfl
      · rw [if_neg d, if_neg (by omega)]; rfl
theorem pl_at_1 {n b s : Nat} (h7 : 7 ≤ n) (hn : n ≤ 2000) (hr : rp n) (h3 : n % 3 = 1) (h : isSpl n b s) : pl_at n = [(spA b s - b, -(b : Int)), (spA b s, (b : Int))] := by
  unfold pl_at
  rw [if_pos (by rw [(pl_prime_iff hn).mpr hr]; simp [h3]), pl_split_eq h7 hn hr h3 h]
theorem sq45 {q n : Nat} (h : q * q = n) (hn : n ≤ 2000) : q < 45 := by
  by_cases c : q < 45
  · exact c
  · have := Nat.mul_le_mul (show 45 ≤ q by omega) (show 45 ≤ q by omega); omega
theorem sq_inj {q r : Nat} (h : q * q = r * r) : q = r := by
  rcases Nat.lt_trichotomy q r with c | c | c
  · have := Nat.mul_lt_mul'' c c; omega
  · exact c
  · have := Nat.mul_lt_mul'' c c; omega
theorem pl_at_2 {n q : Nat} (hn : n ≤ 2000) (h0 : ¬ (rp n ∧ n % 3 = 1)) (hq : q * q = n) (h3 : q % 3 = 2) (hr : rp q) : pl_at n = [((q : Int), 0)] := by
  have q45 := sq45 hq hn
  unfold pl_at
  rw [if_neg (by simp only [Bool.and_eq_true, decide_eq_true_eq, pl_prime_iff hn]; exact h0), flt_one _ q 45 (fun x hx => ?_), if_pos q45]
  · rfl
  · simp only [Bool.and_eq_true, decide_eq_true_eq]
    constructor
    · rintro ⟨⟨z, -⟩, -⟩
      exact sq_inj (by rw [z, hq])
    · rintro rfl
      exact ⟨⟨hq, h3⟩, (pl_prime_iff (by omega)).mpr hr⟩
theorem pl_at_0 {n : Nat} (hn : n ≤ 2000) (h0 : ¬ (rp n ∧ n % 3 = 1)) (hq : ∀ q : Nat, q * q = n → ¬ (q % 3 = 2 ∧ rp q)) : pl_at n = [] := by
  unfold pl_at
  rw [if_neg (by simp only [Bool.and_eq_true, decide_eq_true_eq, pl_prime_iff hn]; exact h0)]
  have : (List.range 45).filter (fun q => decide (q * q = n) && decide (q % 3 = 2) && pl_prime q) = [] := by
    rw [List.filter_eq_nil_iff]
    intro x hx
    simp only [Bool.and_eq_true, decide_eq_true_eq]
    rintro ⟨⟨z1, z2⟩, z3⟩
    rw [List.mem_range] at hx
    exact hq x z1 ⟨z2, (pl_prime_iff (by omega)).mp z3⟩
  rw [this]
  rfl
def pf (n : Nat) : List (Int × Int) := (List.range n).flatMap (fun i => pl_at (i + 4))
theorem pf_succ (n : Nat) : pf (n + 1) = pf n ++ pl_at (n + 4) := by
  unfold pf
  rw [List.range_succ, List.flatMap_append]
  simp
theorem pf_le : ∀ (j n : Nat), n + j = 1997 → (pf n).length ≤ 303 := by
  intro j
  induction j with
  | zero =>
    intro n hn
    obtain rfl : n = 1997 := by omega
    exact Nat.le_of_eq pl_len
  | succ j ih =>
    intro n hn
    have := ih (n + 1) (by omega)
    rw [pf_succ, List.length_append] at this
    omega
/-- the list in two rows -/
def isL (L : List (Int × Int)) (A B : Nat → Int32) : Prop := ∀ k : Nat, k < L.length → A k = iI (L.getD k (0, 0)).1 ∧ B k = iI (L.getD k (0, 0)).2
theorem isL_app {L : List (Int × Int)} {A B : Nat → Int32} (h : isL L A B) (x y : Int) : isL (L ++ [(x, y)]) (upd A L.length (iI x)) (upd B L.length (iI y)) := by
  intro k hk
  rw [List.length_append] at hk
  have hk' : k < L.length + 1 := hk
  unfold upd
  by_cases c : k = L.length
  · subst c
    have e : (L ++ [(x, y)]).getD L.length (0, 0) = (x, y) := by simp
    rw [if_pos rfl, if_pos rfl, e]
    exact ⟨rfl, rfl⟩
  · have e : (L ++ [(x, y)]).getD k (0, 0) = L.getD k (0, 0) := by
      have : k < L.length := by omega
      simp [List.getD, List.getElem?_append_left this]
    rw [if_neg c, if_neg c, e]
    exact h k (by omega)
theorem s_lists {L : List (Int × Int)} {A B : Nat → Int32} (h : isL L A B) (hl : L.length < 400) (x y : Int) : ∃ A' B', f_X11_lists (lI x) (lI y) (nI L.length) A B = some (nI (L ++ [(x, y)]).length, A', B') ∧ isL (L ++ [(x, y)]) A' B' := by
  refine ⟨_, _, ?_, isL_app h x y⟩
  unfold f_X11_lists
  rw [if_neg (nI_in hl (by decide)), if_neg (nI_in hl (by decide)), nI_clamp (by omega), nI_1, lI_i, lI_i, List.length_append]
  rfl
theorem s_padd {L : List (Int × Int)} {A B : Nat → Int32} (h : isL L A B) (hl : L.length < 320) (x y : Int) : ∃ A' B', f_X6_add (iI x) (iI y) (nI L.length) A B = some (nI (L ++ [(x, y)]).length, A', B') ∧ isL (L ++ [(x, y)]) A' B' := by
  refine ⟨_, _, ?_, isL_app h x y⟩
  unfold f_X6_add
  rw [if_neg (nI_pos (by omega)), if_neg (nl320 hl), if_neg (nI_in hl (by decide)), if_neg (nI_in hl (by decide)), nI_clamp (by omega), nI_1, List.length_append]
  rfl
theorem i_mod3 {n : Nat} (hn : n < 2147483648) (r : Nat) (hr : r < 3) : (iI (n : Int) - iI (n : Int) / 3 * 3 = iI (r : Int)) ↔ n % 3 = r := by
  have : iI (n : Int) - iI (n : Int) / 3 * 3 = iI ((n : Int) % 3) := iI_mod (m := 3) (by omega) ⟨by omega, by omega⟩ ⟨by decide, by decide⟩
  rw [this, iI_eq ⟨by omega, by omega⟩ ⟨by omega, by omega⟩]
  omega
theorem i_sqeq {k n : Nat} (hk : k ≤ 40000) (hn : n < 2147483648) : (iI (k : Int) * iI (k : Int) = iI (n : Int)) ↔ k * k = n := by
  have kk : k * k ≤ 40000 * 40000 := Nat.mul_le_mul hk hk
  have e : (k : Int) * k = ((k * k : Nat) : Int) := rfl
  rw [iI_mul, e, iI_eq ⟨by omega, by omega⟩ ⟨by omega, by omega⟩]
  omega
/-- one more norm, the reference -/
theorem lp_step {N : Nat} (hN : 1048576 ≤ N) (f : Nat) {n : Nat} (hn : n < 1997) (ra rb : Int64) {A B : Nat → Int32} (h : isL (pf n) A B) : ∃ (ra' rb' : Int64) (A' B' : Nat → Int32), f_X11_laysPrimes_2 N (f + 1) (iI ((n + 4 : Nat) : Int)) ra rb (nI (pf n).length) A B = f_X11_laysPrimes_2 N f (iI ((n + 1 + 4 : Nat) : Int)) ra' rb' (nI (pf (n + 1)).length) A' B' ∧ isL (pf (n + 1)) A' B' := by
  obtain ⟨k, hk⟩ := lp_ex (n := n + 4) (by omega)
  have hkl := Nat.le_of_dvd (by omega) hk.2.1
  have len := pf_le (1997 - n) n (by omega)
  have en1 : iI ((n + 4 : Nat) : Int) + 1 = iI ((n + 1 + 4 : Nat) : Int) := by rw [i1, iI_add]; congr 1
  have kn : (iI (k : Int) = iI ((n + 4 : Nat) : Int)) ↔ k = n + 4 := by rw [iI_eq ⟨by omega, by omega⟩ ⟨by omega, by omega⟩]; omega
  have m1 := i_mod3 (n := n + 4) (by omega) 1 (by decide)
  have m2 := i_mod3 (n := k) (by omega) 2 (by decide)
  have sq := i_sqeq (k := k) (n := n + 4) (by omega) (by omega)
  rw [f_X11_laysPrimes_2, if_neg (by rw [show (2000 : Int32) = iI 2000 from rfl, iI_lt ⟨by decide, by decide⟩ ⟨by omega, by omega⟩]; omega), s_lp hN (by omega) (by omega) hk, Option.bind_some]
  have m1' : (iI ((n + 4 : Nat) : Int) - iI ((n + 4 : Nat) : Int) / 3 * 3 = 1) ↔ (n + 4) % 3 = 1 := m1
  have m2' : (iI (k : Int) - iI (k : Int) / 3 * 3 = 2) ↔ k % 3 = 2 := m2
  by_cases c1 : k = n + 4 ∧ (n + 4) % 3 = 1
  · have hr := (lp_iff hk (by omega)).mpr c1.1
    have n7 : 7 ≤ n + 4 := by
      by_cases c : 7 ≤ n + 4
      · exact c
      · have : n + 4 = 4 := by omega
        rw [this] at hr
        rcases hr.2 2 ⟨2, rfl⟩ with z | z <;> omega
    obtain ⟨b, s, hs⟩ := spl_ex n7 (by omega) c1.2 hr
    have k2 := (s_spl hN (p := n + 4) (by omega) c1.2 hs).2
    rw [if_pos (kn.mpr c1.1), if_pos (m1'.mpr c1.2), k2, Option.bind_some]
    simp only []
    rw [lI_sub, lI_neg]
    obtain ⟨A1, B1, u1, u2⟩ := s_lists h (by omega) (spA b s - b) (-(b : Int))
    rw [u1, Option.bind_some]
    have l1 : ((pf n) ++ [(spA b s - b, -(b : Int))]).length < 400 := by rw [List.length_append]; show (pf n).length + 1 < 400; omega
    obtain ⟨A2, B2, w1, w2⟩ := s_lists u2 l1 (spA b s) (b : Int)
    simp only []
    rw [w1, Option.bind_some]
    unfold f_X11_laysPrimes_60
    have ns : ¬ iI (k : Int) * iI (k : Int) = iI ((n + 4 : Nat) : Int) := by
      rw [sq, c1.1]
      have := Nat.mul_le_mul_left (n + 4) (show 2 ≤ n + 4 by omega)
      omega
    rw [if_neg ns, en1]
    have e : pf (n + 1) = pf n ++ [(spA b s - b, -(b : Int))] ++ [(spA b s, (b : Int))] := by
      rw [pf_succ, pl_at_1 n7 (by omega) hr c1.2 hs, List.append_assoc]; rfl
    rw [e]
    exact ⟨_, _, A2, B2, rfl, w2⟩
  · have skip : ∀ X Y : Option (Int64 × Int64 × Int32 × (Nat → Int32) × (Nat → Int32)), (if iI (k : Int) = iI ((n + 4 : Nat) : Int) then if iI ((n + 4 : Nat) : Int) - iI ((n + 4 : Nat) : Int) / 3 * 3 = 1 then X else Y else Y) = Y := by
      intro X Y
      by_cases ca : k = n + 4
      · rw [if_pos (kn.mpr ca), if_neg (fun z => c1 ⟨ca, m1'.mp z⟩)]
      · rw [if_neg (fun z => ca (kn.mp z))]
    rw [skip]
    unfold f_X11_laysPrimes_60
    have h0 : ¬ (rp (n + 4) ∧ (n + 4) % 3 = 1) := fun z => c1 ⟨(lp_iff hk (by omega)).mp z.1, z.2⟩
    by_cases c2 : k * k = n + 4
    · rw [if_pos (sq.mpr c2)]
      by_cases c3 : k % 3 = 2
      · rw [if_pos (m2'.mpr c3), iI_l ⟨by omega, by omega⟩, l0]
        obtain ⟨A1, B1, u1, u2⟩ := s_lists h (by omega) (k : Int) 0
        rw [u1, Option.bind_some, en1]
        have e : pf (n + 1) = pf n ++ [((k : Int), 0)] := by rw [pf_succ, pl_at_2 (by omega) h0 c2 c3 (lp_rp hk)]
        rw [e]
        exact ⟨_, _, A1, B1, rfl, u2⟩
      · rw [if_neg (fun z => c3 (m2'.mp z)), en1]
        have e : pf (n + 1) = pf n := by
          rw [pf_succ, pl_at_0 (by omega) h0 (fun q p z => ?_), List.append_nil]
          have : q = k := sq_inj (by rw [p, c2])
          rw [this] at z
          exact c3 z.1
        rw [e]
        exact ⟨_, _, A, B, rfl, h⟩
    · rw [if_neg (fun z => c2 (sq.mp z)), en1]
      have e : pf (n + 1) = pf n := by
        rw [pf_succ, pl_at_0 (by omega) h0 (fun q p z => ?_), List.append_nil]
        -- its root would be the least part
        have q2 := z.2.1
        have l : k ≤ q := hk.2.2 q q2 ⟨q, p.symm⟩
        have d : k ∣ q * q := by rw [p]; exact hk.2.1
        have : k = q := by
          have cop : Nat.gcd k q = 1 ∨ k ∣ q := by
            rcases (lp_rp hk).2 (Nat.gcd k q) (Nat.gcd_dvd_left k q) with y | y
            · exact Or.inl y
            · right; rw [← y]; exact Nat.gcd_dvd_right k q
          rcases cop with y | y
          · have := Nat.Coprime.dvd_of_dvd_mul_left (show Nat.Coprime k q from y) d
            rcases z.2.2 k this with y' | y'
            · have := hk.1; omega
            · exact y'
          · rcases z.2.2 k y with y' | y'
            · have := hk.1; omega
            · exact y'
        rw [this] at c2
        exact c2 p
      rw [e]
      exact ⟨_, _, A, B, rfl, h⟩
theorem lp_all {N : Nat} (hN : 1048576 ≤ N) : ∀ (j n : Nat), n + j = 1997 → ∀ (f : Nat) (ra rb : Int64) (A B : Nat → Int32), j < f → isL (pf n) A B → ∃ (ra' rb' : Int64) (A' B' : Nat → Int32), f_X11_laysPrimes_2 N f (iI ((n + 4 : Nat) : Int)) ra rb (nI (pf n).length) A B = some (ra', rb', nI kPL.length, A', B') ∧ isL kPL A' B' := by
  intro j
  induction j with
  | zero =>
    intro n hn f ra rb A B hf h
    obtain ⟨f, rfl⟩ : ∃ f', f = f' + 1 := ⟨f - 1, by omega⟩
    obtain rfl : n = 1997 := by omega
    rw [f_X11_laysPrimes_2, if_pos (by decide)]
    exact ⟨ra, rb, A, B, rfl, h⟩
  | succ j ih =>
    intro n hn f ra rb A B hf h
    obtain ⟨f, rfl⟩ : ∃ f', f = f' + 1 := ⟨f - 1, by omega⟩
    obtain ⟨ra', rb', A', B', e, h'⟩ := lp_step hN f (show n < 1997 by omega) ra rb h
    rw [e]
    exact ih (n + 1) (by omega) f ra' rb' A' B' (by omega) h'
theorem q_init (N : Nat) (hN : 1048576 ≤ N) : ∃ x : Int64 × Int64 × Int32 × (Nat → Int32) × (Nat → Int32), f_X11_laysPrimes N 0 0 0 (fun _ => 0) (fun _ => 0) = some x ∧ kR 0 0 (fun _ => 0) (fun _ => 0) (fun _ => 0) (fun _ => 0) (fun _ => 0) 0 (fun _ => 0) 0 (fun _ => 0) (fun _ => 0) 0 (fun _ => 0) (fun _ => 0) (fun _ => 0) (fun _ => 0) (fun _ => 0) (fun _ => 0) (fun _ => 0) 0 x.2.2.2.1 x.2.2.2.2 x.2.2.1 := by
  obtain ⟨ra, rb, A, B, e, h⟩ := lp_all hN 1997 0 (by omega) N 0 0 (fun _ => 0) (fun _ => 0) (by omega) (fun k hk => absurd hk (by have : (pf 0).length = 0 := rfl; omega))
  refine ⟨_, e, ⟨fun _ => none, 0, by decide, rfl, fun d hd => ⟨by simp, rfl, fun a b z => nomatch z⟩⟩, ⟨0, fun _ _ => none, by decide, rfl, rfl, fun s hs => absurd hs (by omega)⟩, ⟨0, fun _ => 0, by decide, rfl, rfl, fun i hi => absurd hi (by omega)⟩, rfl, h, Or.inl rfl⟩
/-- one more norm, the class -/
theorem fd_step {N : Nat} (hN : 1048576 ≤ N) (f : Nat) {n q : Nat} (hn : n < 1997) (hq : q ≤ 40000) (ra rb : Int64) {A B : Nat → Int32} (h : isL (pf n) A B) : ∃ (q' : Nat) (ra' rb' : Int64) (A' B' : Nat → Int32), q' ≤ 40000 ∧ f_X6_find_12 N (f + 1) (iI q) (iI ((n + 4 : Nat) : Int)) (nI (pf n).length) A B ra rb = f_X6_find_12 N f (iI q') (iI ((n + 1 + 4 : Nat) : Int)) (nI (pf (n + 1)).length) A' B' ra' rb' ∧ isL (pf (n + 1)) A' B' := by
  obtain ⟨k, hk⟩ := lp_ex (n := n + 4) (by omega)
  have len := pf_le (1997 - n) n (by omega)
  have en1 : iI ((n + 4 : Nat) : Int) + 1 = iI ((n + 1 + 4 : Nat) : Int) := by rw [i1, iI_add]; congr 1
  obtain ⟨t, sq⟩ := isq_ex (v := ((n + 4 : Nat) : Int)) (by omega)
  have rr := s_rootFrom hN sq (by omega) (show (0 : Int) ≤ (q : Int) by omega) (by omega)
  have tl : t ≤ 45 := isq_le sq (by decide) (by omega)
  have t2 : 2 ≤ t := by
    by_cases c : 2 ≤ t
    · exact c
    · exfalso
      have := sq.2.2
      have q1 := sq_mono (show (0 : Int) ≤ t + 1 by have := sq.1; omega) (show t + 1 ≤ 2 by omega)
      omega
  obtain ⟨t, rfl⟩ := Int.eq_ofNat_of_zero_le sq.1
  have m1 : (iI ((n + 4 : Nat) : Int) - iI ((n + 4 : Nat) : Int) / 3 * 3 = 1) ↔ (n + 4) % 3 = 1 := i_mod3 (n := n + 4) (by omega) 1 (by decide)
  have m2 : (iI (t : Int) - iI (t : Int) / 3 * 3 = 2) ↔ t % 3 = 2 := i_mod3 (n := t) (by omega) 2 (by decide)
  have sqe := i_sqeq (k := t) (n := n + 4) (by omega) (by omega)
  refine ⟨t, ?_⟩
  rw [f_X6_find_12, if_neg (by rw [show (2000 : Int32) = iI 2000 from rfl, iI_lt ⟨by decide, by decide⟩ ⟨by omega, by omega⟩]; omega), rr, Option.bind_some]
  by_cases c1 : k = n + 4 ∧ (n + 4) % 3 = 1
  · have hr := (lp_iff hk (by omega)).mpr c1.1
    have n7 : 7 ≤ n + 4 := by
      by_cases c : 7 ≤ n + 4
      · exact c
      · have : n + 4 = 4 := by omega
        rw [this] at hr
        rcases hr.2 2 ⟨2, rfl⟩ with z | z <;> omega
    obtain ⟨b, s, hs⟩ := spl_ex n7 (by omega) c1.2 hr
    have k2 := (s_spl hN (p := n + 4) (by omega) c1.2 hs).1 ra rb
    rw [if_pos (m1.mpr c1.2), s_ip hN (by omega) (by omega) hk, Option.bind_some, if_pos c1.1, if_neg j1, k2, Option.bind_some]
    simp only []
    rw [lI_sub, lI_neg, lI_i, lI_i, lI_i, lI_i]
    obtain ⟨A1, B1, u1, u2⟩ := s_padd h (by omega) (spA b s - b) (-(b : Int))
    rw [u1, Option.bind_some]
    have l1 : ((pf n) ++ [(spA b s - b, -(b : Int))]).length < 320 := by rw [List.length_append]; show (pf n).length + 1 < 320; omega
    obtain ⟨A2, B2, w1, w2⟩ := s_padd u2 l1 (spA b s) (b : Int)
    simp only []
    rw [w1, Option.bind_some, en1]
    have e : pf (n + 1) = pf n ++ [(spA b s - b, -(b : Int))] ++ [(spA b s, (b : Int))] := by
      rw [pf_succ, pl_at_1 n7 (by omega) hr c1.2 hs, List.append_assoc]; rfl
    rw [e]
    exact ⟨_, _, A2, B2, by omega, rfl, w2⟩
  · have skip : ∀ X Y : Option (Int32 × (Nat → Int32) × (Nat → Int32) × Int64 × Int64), (if iI ((n + 4 : Nat) : Int) - iI ((n + 4 : Nat) : Int) / 3 * 3 = 1 then (f_X9_isPrime N (iI ((n + 4 : Nat) : Int))).bind fun y33 => if y33 = 0 then Y else X else Y) = Y := by
      intro X Y
      by_cases ca : (n + 4) % 3 = 1
      · rw [if_pos (m1.mpr ca), s_ip hN (by omega) (by omega) hk, Option.bind_some, if_neg (fun z => c1 ⟨z, ca⟩), if_pos rfl]
      · rw [if_neg (fun z => ca (m1.mp z))]
    rw [skip]
    unfold f_X6_find_99
    have h0 : ¬ (rp (n + 4) ∧ (n + 4) % 3 = 1) := fun z => c1 ⟨(lp_iff hk (by omega)).mp z.1, z.2⟩
    by_cases c2 : t * t = n + 4
    · rw [if_pos (sqe.mpr c2)]
      by_cases c3 : t % 3 = 2
      · obtain ⟨kt, hkt⟩ := lp_ex (n := t) (by omega)
        rw [if_pos (m2.mpr c3), s_ip hN (by omega) (by omega) hkt, Option.bind_some]
        by_cases c4 : kt = t
        · rw [if_pos c4, if_neg j1, i0]
          obtain ⟨A1, B1, u1, u2⟩ := s_padd h (by omega) (t : Int) 0
          rw [u1, Option.bind_some, en1]
          have e : pf (n + 1) = pf n ++ [((t : Int), 0)] := by rw [pf_succ, pl_at_2 (by omega) h0 c2 c3 ((lp_iff hkt (by omega)).mpr c4)]
          rw [e]
          exact ⟨_, _, A1, B1, by omega, rfl, u2⟩
        · rw [if_neg c4, if_pos rfl, en1]
          have e : pf (n + 1) = pf n := by
            rw [pf_succ, pl_at_0 (by omega) h0 (fun q p z => ?_), List.append_nil]
            have : q = t := sq_inj (by rw [p, c2])
            rw [this] at z
            exact c4 ((lp_iff hkt (by omega)).mp z.2)
          rw [e]
          exact ⟨_, _, A, B, by omega, rfl, h⟩
      · rw [if_neg (fun z => c3 (m2.mp z)), en1]
        have e : pf (n + 1) = pf n := by
          rw [pf_succ, pl_at_0 (by omega) h0 (fun q p z => ?_), List.append_nil]
          have : q = t := sq_inj (by rw [p, c2])
          rw [this] at z
          exact c3 z.1
        rw [e]
        exact ⟨_, _, A, B, by omega, rfl, h⟩
    · rw [if_neg (fun z => c2 (sqe.mp z)), en1]
      have e : pf (n + 1) = pf n := by
        rw [pf_succ, pl_at_0 (by omega) h0 (fun q p z => ?_), List.append_nil]
        have : (t : Int) = q := isq_eq sq (by omega) (by rw [← p, Int.natCast_mul])
        have : t = q := by omega
        rw [this] at c2
        exact c2 p
      rw [e]
      exact ⟨_, _, A, B, by omega, rfl, h⟩
theorem fd_all {N : Nat} (hN : 1048576 ≤ N) : ∀ (j n : Nat), n + j = 1997 → ∀ (f q : Nat) (ra rb : Int64) (A B : Nat → Int32), j < f → q ≤ 40000 → isL (pf n) A B → ∃ (ra' rb' : Int64) (A' B' : Nat → Int32), f_X6_find_12 N f (iI q) (iI ((n + 4 : Nat) : Int)) (nI (pf n).length) A B ra rb = some (nI kPL.length, A', B', ra', rb') ∧ isL kPL A' B' := by
  intro j
  induction j with
  | zero =>
    intro n hn f q ra rb A B hf hq h
    obtain ⟨f, rfl⟩ : ∃ f', f = f' + 1 := ⟨f - 1, by omega⟩
    obtain rfl : n = 1997 := by omega
    rw [f_X6_find_12, if_pos (by decide)]
    exact ⟨ra, rb, A, B, rfl, h⟩
  | succ j ih =>
    intro n hn f q ra rb A B hf hq h
    obtain ⟨f, rfl⟩ : ∃ f', f = f' + 1 := ⟨f - 1, by omega⟩
    obtain ⟨q', ra', rb', A', B', hq', e, h'⟩ := fd_step hN f (show n < 1997 by omega) hq ra rb h
    rw [e]
    exact ih (n + 1) (by omega) f q' ra' rb' A' B' (by omega) hq' h'
theorem s_find {N : Nat} (hN : 1048576 ≤ N) {pc listed : Int32} {A B la lb : Nat → Int32} (h : kRp pc A B la lb listed) (ra rb : Int64) : ∃ (ra' rb' : Int64) (A' B' : Nat → Int32), f_X6_find N pc A B ra rb = some (nI kPL.length, A', B', ra', rb') ∧ isL kPL A' B' ∧ isL kPL la lb ∧ listed = nI kPL.length ∧ kRp (nI kPL.length) A' B' la lb listed := by
  obtain ⟨h1, h2, h3⟩ := h
  unfold f_X6_find
  rcases h3 with rfl | ⟨rfl, h3⟩
  · obtain ⟨ra', rb', A', B', e, h'⟩ := fd_all hN 1997 0 (by omega) N 0 ra rb A B (by omega) (by omega) (fun k hk => absurd hk (by have : (pf 0).length = 0 := rfl; omega))
    rw [if_pos (by decide)]
    exact ⟨ra', rb', A', B', e, h', h2, h1, h1, h2, Or.inr ⟨rfl, h'⟩⟩
  · rw [if_neg (by rw [pl_len]; decide)]
    exact ⟨ra, rb, A, B, rfl, h3, h2, h1, h1, h2, Or.inr ⟨rfl, h3⟩⟩
theorem kPL_small : ∀ k, k < 303 → (-100 ≤ (kPL.getD k (0, 0)).1 ∧ (kPL.getD k (0, 0)).1 ≤ 100) ∧ (-100 ≤ (kPL.getD k (0, 0)).2 ∧ (kPL.getD k (0, 0)).2 ≤ 100) := by
  have h : kPL.all (fun r => decide ((-100 ≤ r.1 ∧ r.1 ≤ 100) ∧ (-100 ≤ r.2 ∧ r.2 ≤ 100))) = true := by decide +kernel
  intro k hk
  rw [List.all_eq_true] at h
  have hk' : k < kPL.length := by rw [pl_len]; exact hk
  have := h kPL[k] (List.getElem_mem hk')
  rw [decide_eq_true_eq] at this
  have e : kPL.getD k (0, 0) = kPL[k] := by simp [List.getD, List.getElem?_eq_getElem hk']
  rw [e]
  exact this
theorem s_pload {A B : Nat → Int32} (h : isL kPL A B) {k : Nat} (hk : k < 303) (x y : Int64) : f_X6_load (nI k) (nI kPL.length) A B x y = some (lI (kPL.getD k (0, 0)).1, lI (kPL.getD k (0, 0)).2) := by
  have hl := h k (by rw [pl_len]; exact hk)
  have sm := kPL_small k hk
  unfold f_X6_load
  rw [if_neg (nI_pos (by omega)), if_neg (nI_ge (by rw [pl_len]; exact hk) (by rw [pl_len]; decide)), if_neg (nl320 (by omega)), if_neg (nI_in (N := 320) (by omega) (by decide)), if_neg (nI_in (N := 320) (by omega) (by decide)), nI_clamp (by omega), hl.1, hl.2, iI_l ⟨by omega, by omega⟩, iI_l ⟨by omega, by omega⟩]
  rfl
