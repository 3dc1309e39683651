/-! ===== divisors: what is reckoned prime by prime ===== -/
def foldF {α : Type} (st : α → Bool → Int → α) (rp : Nat → Bool) (nm : Nat → Int) : Nat → Nat → α → α
  | 0, _, x => x
  | j + 1, i, x => foldF st rp nm j (i + 1) (st x (rp i) (nm i))
/-- whether the i-th is the one ahead again; its norm -/
def rpb (t : Nat) (L : List (Int × Int)) (i : Nat) : Bool := if i < t then decide (0 < i) else decide (t < i ∧ L.getD (i - t) (0, 0) = L.getD (i - t - 1) (0, 0))
def nmv (t : Nat) (L : List (Int × Int)) (i : Nat) : Int := if i < t then 3 else en (L.getD (i - t) (0, 0))
theorem foldF_app {α : Type} (st : α → Bool → Int → α) (rp : Nat → Bool) (nm : Nat → Int) : ∀ (a b i : Nat) (x : α), foldF st rp nm (a + b) i x = foldF st rp nm b (i + a) (foldF st rp nm a i x) := by
  intro a
  induction a with
  | zero => intro b i x; rw [Nat.zero_add, Nat.add_zero]; rfl
  | succ a ih =>
    intro b i x
    rw [show a + 1 + b = a + b + 1 by omega]
    show foldF st rp nm (a + b) (i + 1) (st x (rp i) (nm i)) = foldF st rp nm b (i + (a + 1)) (foldF st rp nm a (i + 1) (st x (rp i) (nm i)))
    rw [ih, show i + 1 + a = i + (a + 1) by omega]
def stD (no : Bool) (s : Int × Int × Int) (r : Bool) (m : Int) : Int × Int × Int := if r then (s.1, s.2.1 + (if no then s.2.2 * m else 1), s.2.2 * m) else (s.1 * s.2.1, 1 + (if no then m else 1), m)
def stP (x : Int) (r : Bool) (m : Int) : Int := x * (if r then m else m - 1)
def stS (x : Int32) (r : Bool) (_ : Int) : Int32 := if r then 0 else -x
def gs (n : Int) : Nat → Int
  | 0 => 1
  | o + 1 => gs n o + n ^ (o + 1)
theorem gr_rest {rp : Nat → Bool} {nm : Nat → Int} {n : Int} : ∀ (o i : Nat), (∀ j, j < o → rp (i + j) = true ∧ nm (i + j) = n) → (∀ (a c : Int) (p : Nat), foldF (stD false) rp nm o i (a, c, n ^ p) = (a, c + o, n ^ (p + o))) ∧ (∀ (a : Int) (p : Nat), foldF (stD true) rp nm o i (a, gs n p, n ^ p) = (a, gs n (p + o), n ^ (p + o))) ∧ (∀ x : Int, foldF stP rp nm o i x = x * n ^ o) ∧ (∀ x : Int32, foldF stS rp nm o i x = if o = 0 then x else 0) := by
  intro o
  induction o with
  | zero =>
    intro i _
    refine ⟨fun a c p => ?_, fun a p => rfl, fun x => ?_, fun x => rfl⟩
    · show (a, c, n ^ p) = (a, c + ((0 : Nat) : Int), n ^ (p + 0))
      rw [Nat.add_zero, show ((0 : Nat) : Int) = 0 from rfl, Int.add_zero]
    · show x = x * n ^ 0
      rw [Int.pow_zero, Int.mul_one]
  | succ o ih =>
    intro i h
    have h0 := h 0 (by omega)
    rw [Nat.add_zero] at h0
    obtain ⟨i1, i2, i3, i4⟩ := ih (i + 1) (fun j hj => by have := h (j + 1) (by omega); rw [show i + (j + 1) = i + 1 + j by omega] at this; exact this)
    refine ⟨fun a c p => ?_, fun a p => ?_, fun x => ?_, fun x => ?_⟩
    · show foldF (stD false) rp nm o (i + 1) (stD false (a, c, n ^ p) (rp i) (nm i)) = _
      rw [h0.1, h0.2]
      have e : stD false (a, c, n ^ p) true n = (a, c + 1, n ^ (p + 1)) := by unfold stD; simp [Int.pow_succ]
      rw [e, i1, show p + 1 + o = p + (o + 1) by omega]
      congr 2
      omega
    · show foldF (stD true) rp nm o (i + 1) (stD true (a, gs n p, n ^ p) (rp i) (nm i)) = _
      rw [h0.1, h0.2]
      have e : stD true (a, gs n p, n ^ p) true n = (a, gs n (p + 1), n ^ (p + 1)) := by unfold stD; simp [Int.pow_succ, gs]
      rw [e, i2, show p + 1 + o = p + (o + 1) by omega]
    · show foldF stP rp nm o (i + 1) (stP x (rp i) (nm i)) = _
      rw [h0.1, h0.2]
      have e : stP x true n = x * n := by unfold stP; simp
      rw [e, i3, Int.mul_assoc, Int.pow_succ, Int.mul_comm n]
    · show foldF stS rp nm o (i + 1) (stS x (rp i) (nm i)) = _
      rw [h0.1]
      have e : stS x true (nm i) = 0 := by unfold stS; simp
      rw [e, i4, if_neg (show ¬ o + 1 = 0 by omega)]
      split <;> rfl
/-- one prime, so often -/
theorem gr_all {rp : Nat → Bool} {nm : Nat → Int} {n : Int} {o i : Nat} (h0 : rp i = false) (hn : nm i = n) (h : ∀ j, 1 ≤ j → j < o + 1 → rp (i + j) = true ∧ nm (i + j) = n) : (∀ s : Int × Int × Int, ∃ q, foldF (stD false) rp nm (o + 1) i s = (s.1 * s.2.1, ((o + 1 : Nat) : Int) + 1, q)) ∧ (∀ s : Int × Int × Int, ∃ q, foldF (stD true) rp nm (o + 1) i s = (s.1 * s.2.1, gs n (o + 1), q)) ∧ (∀ x : Int, foldF stP rp nm (o + 1) i x = x * ((n - 1) * n ^ o)) ∧ (∀ x : Int32, foldF stS rp nm (o + 1) i x = if o = 0 then -x else 0) := by
  obtain ⟨i1, i2, i3, i4⟩ := gr_rest (rp := rp) (nm := nm) (n := n) o (i + 1) (fun j hj => by have := h (j + 1) (by omega) (by omega); rw [show i + (j + 1) = i + 1 + j by omega] at this; exact this)
  refine ⟨fun s => ?_, fun s => ?_, fun x => ?_, fun x => ?_⟩
  · have e : stD false s false n = (s.1 * s.2.1, 2, n ^ 1) := by unfold stD; simp [Int.pow_succ]
    refine ⟨n ^ (1 + o), ?_⟩
    show foldF (stD false) rp nm o (i + 1) (stD false s (rp i) (nm i)) = _
    rw [h0, hn, e, i1]
    congr 2
    omega
  · have e : stD true s false n = (s.1 * s.2.1, gs n 1, n ^ 1) := by unfold stD; simp [gs, Int.pow_succ]
    refine ⟨n ^ (1 + o), ?_⟩
    show foldF (stD true) rp nm o (i + 1) (stD true s (rp i) (nm i)) = _
    rw [h0, hn, e, i2, Nat.add_comm 1 o]
  · show foldF stP rp nm o (i + 1) (stP x (rp i) (nm i)) = _
    have e : stP x false n = x * (n - 1) := by unfold stP; simp
    rw [h0, hn, e, i3, Int.mul_assoc]
  · show foldF stS rp nm o (i + 1) (stS x (rp i) (nm i)) = _
    have e : stS x false (nm i) = -x := by unfold stS; simp
    rw [h0, e, i4]
section DIVC
variable {N : Nat} {L : List (Int × Int)} {t : Nat} {A B nn : Nat → Int64}
theorem i_t {i : Nat} (hi : i < 2147483648) (ht : t < 2147483648) : nI i - nI t = iI ((i : Int) - t) := by rw [iI_nI, iI_nI, iI_sub]
theorem getD_of {k : Nat} (hk : k < L.length) : L.getD k (0, 0) = L[k] := by simp [List.getD, List.getElem?_eq_getElem hk]
theorem s_rep (hr : rpC L A B nn) (hb : ∀ y, y ∈ L → eb y) (hl : L.length ≤ 14) (ht : t < 20) {i : Nat} (hi : i < t + L.length) : f_X2_isRepeated (nI i) (nI t) A B = some (if rpb t L i then 1 else 0) := by
  unfold f_X2_isRepeated rpb
  rw [i_t (by omega) (by omega)]
  by_cases c : i < t
  · rw [if_pos c, if_neg (by rw [iI_0le ⟨by omega, by omega⟩]; omega)]
    have e : (nI i ≤ 0) = (i = 0) := propext ⟨fun z => by
      by_cases c2 : i = 0
      · exact c2
      · exact absurd z (nI_nle (by omega) (by omega)), fun z => by rw [z]; decide⟩
    simp only [e]
    by_cases c0 : i = 0
    · rw [if_pos c0, if_neg (by simp only [decide_eq_true_eq]; omega)]
    · rw [if_neg c0, if_pos (by simp only [decide_eq_true_eq]; omega)]
  · obtain ⟨k, rfl⟩ : ∃ k, i = t + k := ⟨i - t, by omega⟩
    have ek : (((t + k : Nat) : Int) - t) = ((k : Nat) : Int) := by omega
    rw [if_neg c, ek, ← iI_nI, if_pos (nI_pos' (by omega)), show t + k - t = k by omega]
    by_cases c0 : k = 0
    · subst c0
      rw [if_pos (show nI 0 ≤ 0 by decide), if_neg (by simp only [decide_eq_true_eq]; omega)]
    · obtain ⟨k, rfl⟩ : ∃ k', k = k' + 1 := ⟨k - 1, by omega⟩
      have hk1 : k + 1 < L.length := by omega
      have hk0 : k < L.length := by omega
      have o1 := nI_in (show k + 1 < 32 by omega) (by decide)
      have o0 := nI_in (show k < 32 by omega) (by decide)
      have h1 := hr (k + 1) hk1
      have h0 := hr k hk0
      have b1 := eb_64 (a := L[k + 1].1) (b := L[k + 1].2) (hb _ (List.getElem_mem hk1))
      have b0 := eb_64 (a := L[k].1) (b := L[k].2) (hb _ (List.getElem_mem hk0))
      rw [if_neg (nI_nle (by omega) (by omega)), if_neg (nl32 (by omega)), nI_pred, if_neg o1, if_neg o0, if_neg o1, if_neg o0, nI_clamp (show k + 1 < 2 ^ 31 by omega), nI_clamp (show k < 2 ^ 31 by omega), h1.1, h1.2.1, h0.1, h0.2.1, cmp2 b1 b0, getD_of hk1, show k + 1 - 1 = k by omega, getD_of hk0]
      by_cases ce : L[k + 1] = L[k]
      · rw [if_pos (decide_eq_true ce), if_pos (by simp only [decide_eq_true_eq]; exact ⟨by omega, ce⟩)]
      · rw [if_neg (by simp only [decide_eq_true_eq]; exact ce), if_neg (by simp only [decide_eq_true_eq]; exact fun z => ce z.2)]
theorem s_nat (hr : rpC L A B nn) (hl : L.length ≤ 14) (ht : t < 20) {i : Nat} (hi : i < t + L.length) : f_X2_normAt (nI i) (nI t) nn = some (lI (nmv t L i)) := by
  unfold f_X2_normAt nmv
  rw [i_t (by omega) (by omega)]
  by_cases c : i < t
  · rw [if_pos c, if_pos (by rw [iI_lt0 ⟨by omega, by omega⟩]; omega)]
    rfl
  · obtain ⟨k, rfl⟩ : ∃ k, i = t + k := ⟨i - t, by omega⟩
    have ek : (((t + k : Nat) : Int) - t) = ((k : Nat) : Int) := by omega
    have hk : k < L.length := by omega
    rw [if_neg c, ek, ← iI_nI, if_neg (nI_pos (by omega)), if_neg (nl32 (by omega)), if_neg (nI_in (N := 32) (by omega) (by decide)), nI_clamp (by omega), (hr k hk).2.2, show t + k - t = k by omega, getD_of hk]
theorem s_tot : f_X2_total (nI L.length) (nI t) = some (nI (t + L.length)) := by unfold f_X2_total; rw [nI_add]
theorem pc_loop (hr : rpC L A B nn) (hb : ∀ y, y ∈ L → eb y) (hl : L.length ≤ 14) (ht : t < 20) : ∀ (j i : Nat), i + j = t + L.length → ∀ (f : Nat) (x : Int), j < f → f_X2_primeClasses_4 N f (lI x) (nI i) (nI L.length) (nI t) A B nn = some (lI (foldF stP (rpb t L) (nmv t L) j i x)) := by
  intro j
  induction j with
  | zero =>
    intro i hi f x hf
    obtain ⟨f, rfl⟩ : ∃ f', f = f' + 1 := ⟨f - 1, by omega⟩
    rw [f_X2_primeClasses_4, s_tot, Option.bind_some, if_pos (nI_le (by omega) (by omega))]
    rfl
  | succ j ih =>
    intro i hi f x hf
    obtain ⟨f, rfl⟩ : ∃ f', f = f' + 1 := ⟨f - 1, by omega⟩
    have I := ih (i + 1) (by omega) f (stP x (rpb t L i) (nmv t L i)) (by omega)
    rw [f_X2_primeClasses_4, s_tot, Option.bind_some, if_neg (nI_ge (by omega) (by omega)), s_rep hr hb hl ht (by omega), Option.bind_some, s_nat hr hl ht (by omega)]
    show _ = some (lI (foldF stP (rpb t L) (nmv t L) j (i + 1) (stP x (rpb t L i) (nmv t L i))))
    rw [← I]
    unfold stP
    cases rpb t L i
    · simp only [Bool.false_eq_true, if_false, if_true, Option.bind_some, nI_1, l1, lI_sub, lI_mul]
    · simp only [if_true, j1, if_false, Option.bind_some, nI_1, lI_mul]
theorem sf_loop (hr : rpC L A B nn) (hb : ∀ y, y ∈ L → eb y) (hl : L.length ≤ 14) (ht : t < 20) : ∀ (j i : Nat), i + j = t + L.length → ∀ (f : Nat) (x : Int32), j < f → f_X2_squarefreeSign_4 N f x (nI i) (nI L.length) (nI t) A B = some (foldF stS (rpb t L) (nmv t L) j i x) := by
  intro j
  induction j with
  | zero =>
    intro i hi f x hf
    obtain ⟨f, rfl⟩ : ∃ f', f = f' + 1 := ⟨f - 1, by omega⟩
    rw [f_X2_squarefreeSign_4, s_tot, Option.bind_some, if_pos (nI_le (by omega) (by omega))]
    rfl
  | succ j ih =>
    intro i hi f x hf
    obtain ⟨f, rfl⟩ : ∃ f', f = f' + 1 := ⟨f - 1, by omega⟩
    have I := ih (i + 1) (by omega) f (stS x (rpb t L i) (nmv t L i)) (by omega)
    rw [f_X2_squarefreeSign_4, s_tot, Option.bind_some, if_neg (nI_ge (by omega) (by omega)), s_rep hr hb hl ht (by omega), Option.bind_some]
    show _ = some (foldF stS (rpb t L) (nmv t L) j (i + 1) (stS x (rpb t L i) (nmv t L i)))
    rw [← I]
    unfold stS
    cases rpb t L i
    · simp only [Bool.false_eq_true, if_false, if_true, nI_1]
    · simp only [if_true, j1, if_false, nI_1]
theorem ds_loop (hr : rpC L A B nn) (hb : ∀ y, y ∈ L → eb y) (hl : L.length ≤ 14) (ht : t < 20) (no : Bool) : ∀ (j i : Nat), i + j = t + L.length → ∀ (f : Nat) (s : Int × Int × Int), j < f → f_X2_divisorSum_11 N f (bI no) (lI s.1) (lI s.2.1) (lI s.2.2) (nI i) (nI L.length) (nI t) A B nn = some (lI ((foldF (stD no) (rpb t L) (nmv t L) j i s).1 * (foldF (stD no) (rpb t L) (nmv t L) j i s).2.1)) := by
  intro j
  induction j with
  | zero =>
    intro i hi f s hf
    obtain ⟨f, rfl⟩ : ∃ f', f = f' + 1 := ⟨f - 1, by omega⟩
    rw [f_X2_divisorSum_11, s_tot, Option.bind_some, if_pos (nI_le (by omega) (by omega)), lI_mul]
    rfl
  | succ j ih =>
    intro i hi f s hf
    obtain ⟨f, rfl⟩ : ∃ f', f = f' + 1 := ⟨f - 1, by omega⟩
    have I := ih (i + 1) (by omega) f (stD no s (rpb t L i) (nmv t L i)) (by omega)
    rw [f_X2_divisorSum_11, s_tot, Option.bind_some, if_neg (nI_ge (by omega) (by omega)), s_rep hr hb hl ht (by omega), Option.bind_some]
    unfold f_X2_divisorSum_40
    rw [s_nat hr hl ht (by omega)]
    show _ = some (lI ((foldF (stD no) (rpb t L) (nmv t L) j (i + 1) (stD no s (rpb t L i) (nmv t L i))).1 * (foldF (stD no) (rpb t L) (nmv t L) j (i + 1) (stD no s (rpb t L i) (nmv t L i))).2.1))
    rw [← I]
    unfold stD
    cases rpb t L i <;> cases no
    · simp only [Bool.false_eq_true, if_false, if_true, Option.bind_some, nI_1, bI, l1, lI_mul, lI_add, Int.one_mul]
    · simp only [Bool.false_eq_true, if_false, if_true, Option.bind_some, nI_1, bI, l1, lI_mul, lI_add, Int.one_mul, j1]
    · simp only [Bool.false_eq_true, if_false, if_true, Option.bind_some, nI_1, bI, l1, lI_mul, lI_add, j1]
    · simp only [if_false, if_true, Option.bind_some, nI_1, bI, lI_mul, lI_add, j1]
end DIVC
section DIVR
variable {N : Nat}
/-- the reference: one prime, so often -/
theorem ct_loop (n p q c : Int) (d : Int32) {o : Nat} (ho : o < 100) : ∀ (j i : Nat), i + j = o + 1 → ∀ (f : Nat) (x : Int), j < f → (i = 0 → x = c) → (1 ≤ i → x = c * ((n - 1) * n ^ (i - 1))) → f_X11_counts_14 N f (lI n) (nI (o + 1)) (lI (gs n i)) (lI (n ^ i)) (nI i) (lI p) (lI q) (lI x) d = some (lI (p * (((o + 1 : Nat) : Int) + 1)), lI (q * gs n (o + 1)), lI (c * ((n - 1) * n ^ o)), if o = 0 then -d else 0) := by
  intro j
  induction j with
  | zero =>
    intro i hi f x hf h0 h1
    obtain ⟨f, rfl⟩ : ∃ f', f = f' + 1 := ⟨f - 1, by omega⟩
    obtain rfl : i = o + 1 := by omega
    have e1 : (nI (o + 1) + 1).toInt64 = lI (((o + 1 : Nat) : Int) + 1) := by rw [nI_1, iI_nI, iI_l ⟨by omega, by omega⟩]; congr 1
    rw [f_X11_counts_14, if_pos (nI_le (by omega) (by omega)), e1, lI_mul, lI_mul, h1 (by omega), show o + 1 - 1 = o by omega]
    have e2 : (nI (o + 1) ≤ 1) = (o = 0) := propext ⟨fun z => by
      by_cases c2 : o = 0
      · exact c2
      · exact absurd z (nI_ge (a := 1) (by omega) (by omega)), fun z => by rw [z]; decide⟩
    simp only [e2]
    by_cases c0 : o = 0
    · rw [if_pos c0, if_pos c0]
    · rw [if_neg c0, if_neg c0]
  | succ j ih =>
    intro i hi f x hf h0 h1
    obtain ⟨f, rfl⟩ : ∃ f', f = f' + 1 := ⟨f - 1, by omega⟩
    rw [f_X11_counts_14, if_neg (nI_ge (by omega) (by omega))]
    have g1 : lI (gs n i) + lI (n ^ i) * lI n = lI (gs n (i + 1)) := by rw [lI_mul, lI_add, gs, Int.pow_succ]
    have g2 : lI (n ^ i) * lI n = lI (n ^ (i + 1)) := by rw [lI_mul, Int.pow_succ]
    by_cases c0 : i = 0
    · subst c0
      rw [if_pos (show nI 0 = 0 from rfl)]
      unfold f_X11_counts_37
      rw [g1, g2, nI_1, l1, lI_sub, lI_mul, h0 rfl]
      exact ih 1 (by omega) f _ (by omega) (fun z => absurd z (by decide)) (fun _ => by rw [show 1 - 1 = 0 from rfl, Int.pow_zero, Int.mul_one])
    · rw [if_neg (nI_ne0 (by omega) (by omega))]
      unfold f_X11_counts_37
      rw [g1, g2, nI_1, lI_mul, h1 (by omega)]
      refine ih (i + 1) (by omega) f _ (by omega) (fun z => absurd z (by omega)) (fun _ => ?_)
      rw [show i + 1 - 1 = i - 1 + 1 by omega, Int.pow_succ, Int.mul_assoc, Int.mul_assoc]
theorem s_counts (hN : 1048576 ≤ N) (n p q c : Int) (d : Int32) {o : Nat} (ho : o < 100) : f_X11_counts N (lI n) (nI (o + 1)) (lI p) (lI q) (lI c) d = some (lI (p * (((o + 1 : Nat) : Int) + 1)), lI (q * gs n (o + 1)), lI (c * ((n - 1) * n ^ o)), if o = 0 then -d else 0) := by
  unfold f_X11_counts
  rw [if_neg (nI_ne0 (by omega) (by omega))]
  have h := ct_loop (N := N) n p q c d ho (o + 1) 0 (by omega) N c (by omega) (fun _ => rfl) (fun z => absurd z (by omega))
  rw [Int.pow_zero, show gs n 0 = 1 from rfl, ← l1, show nI 0 = 0 from rfl] at h
  exact h
variable {L : List (Int × Int)} {pa pb pn : Nat → Int32}
/-- how often the k-th stands there -/
theorem run_ex {k : Nat} (hk : k < L.length) : ∃ o, k + o < L.length ∧ (∀ j, j ≤ o → L.getD (k + j) (0, 0) = L.getD k (0, 0)) ∧ (k + o + 1 = L.length ∨ L.getD (k + o + 1) (0, 0) ≠ L.getD k (0, 0)) := by
  have h : ∀ m : Nat, (∃ o, k + o < L.length ∧ (∀ j, j ≤ o → L.getD (k + j) (0, 0) = L.getD k (0, 0)) ∧ (k + o + 1 = L.length ∨ L.getD (k + o + 1) (0, 0) ≠ L.getD k (0, 0))) ∨ (k + m < L.length ∧ ∀ j, j ≤ m → L.getD (k + j) (0, 0) = L.getD k (0, 0)) := by
    intro m
    induction m with
    | zero => right; exact ⟨by omega, fun j hj => by rw [show j = 0 by omega, Nat.add_zero]⟩
    | succ m ih =>
      rcases ih with z | ⟨z1, z2⟩
      · exact Or.inl z
      · by_cases c1 : k + m + 1 = L.length
        · exact Or.inl ⟨m, z1, z2, Or.inl c1⟩
        · by_cases c2 : L.getD (k + m + 1) (0, 0) = L.getD k (0, 0)
          · right
            refine ⟨by omega, fun j hj => ?_⟩
            by_cases c3 : j = m + 1
            · rw [c3]; exact c2
            · exact z2 j (by omega)
          · exact Or.inl ⟨m, z1, z2, Or.inr c2⟩
  rcases h L.length with z | z
  · exact z
  · omega
theorem ca_run (hr : rpR L pa pb pn) (hb : ∀ y, y ∈ L → eb y) (hl : L.length ≤ 14) (K : Int32 → Int64 → Int64 → Int32 → Int32 → Int32 → Int32 → Int64 → Int64 → Int64 → Int32 → (Nat → Int32) → (Nat → Int32) → (Nat → Int32) → Option (Int64 × Int64 × Int32 × Int32 × Int32 × Int32 × Int64 × Int64 × Int64 × Int32 × (Nat → Int32) × (Nat → Int32) × (Nat → Int32))) {k o : Nat} (h1 : k + o < L.length) (h2 : ∀ j, j ≤ o → L.getD (k + j) (0, 0) = L.getD k (0, 0)) (h3 : k + o + 1 = L.length ∨ L.getD (k + o + 1) (0, 0) ≠ L.getD k (0, 0)) (ra rb : Int64) (th on un : Int32) (p q c : Int64) (d : Int32) : ∀ (j i : Nat), i + j = o + 1 → 1 ≤ i → ∀ f : Nat, j < f → f_X11_countsAll_52 N K f (nI k) (nI i) ra rb th (nI L.length) on un p q c d pa pb pn = f_X11_countsAll_113 N K (nI k) (nI (o + 1)) ra rb th (nI L.length) on un p q c d pa pb pn := by
  have cmpR : ∀ {α : Type} (i : Nat) (hi : i < L.length) (P Q : α), (if pa i = pa k then if pb i = pb k then P else Q else Q) = if decide (L.getD i (0, 0) = L.getD k (0, 0)) then P else Q := by
    intro α i hi P Q
    have hk : k < L.length := by omega
    have a1 := hr i hi
    have a0 := hr k hk
    have b1 := eb_32 (a := L[i].1) (b := L[i].2) (hb _ (List.getElem_mem hi))
    have b0 := eb_32 (a := L[k].1) (b := L[k].2) (hb _ (List.getElem_mem hk))
    rw [a1.1, a1.2.1, a0.1, a0.2.1, getD_of hi, getD_of hk]
    by_cases ce : L[i] = L[k]
    · rw [ce, if_pos rfl, if_pos rfl, if_pos (decide_eq_true rfl)]
    · have nd : ¬ decide (L[i] = L[k]) = true := by simp only [decide_eq_true_eq]; exact ce
      rw [if_neg nd]
      by_cases c1 : iI L[i].1 = iI L[k].1
      · have c2 : ¬ iI L[i].2 = iI L[k].2 := fun z => ce (e_ext ((iI_eq b1.1 b0.1).mp c1) ((iI_eq b1.2 b0.2).mp z))
        rw [if_pos c1, if_neg c2]
      · rw [if_neg c1]
  intro j
  induction j with
  | zero =>
    intro i hi i1 f hf
    obtain ⟨f, rfl⟩ : ∃ f', f = f' + 1 := ⟨f - 1, by omega⟩
    obtain rfl : i = o + 1 := by omega
    rw [f_X11_countsAll_52, nI_add]
    by_cases c0 : k + o + 1 = L.length
    · rw [if_pos (nI_le (by omega) (by omega))]
    · have hlt : k + (o + 1) < L.length := by omega
      have oo := nI_in (show k + (o + 1) < 40 by omega) (by decide)
      have ok := nI_in (show k < 40 by omega) (by decide)
      rw [if_neg (nI_ge hlt (by omega)), if_neg oo, if_neg ok, if_neg oo, if_neg ok, nI_clamp (show k + (o + 1) < 2 ^ 31 by omega), nI_clamp (show k < 2 ^ 31 by omega), cmpR _ hlt, if_neg]
      simp only [decide_eq_true_eq]
      rcases h3 with z | z
      · omega
      · exact z
  | succ j ih =>
    intro i hi i1 f hf
    obtain ⟨f, rfl⟩ : ∃ f', f = f' + 1 := ⟨f - 1, by omega⟩
    have hlt : k + i < L.length := by omega
    have oo := nI_in (show k + i < 40 by omega) (by decide)
    have ok := nI_in (show k < 40 by omega) (by decide)
    rw [f_X11_countsAll_52, nI_add, if_neg (nI_ge hlt (by omega)), if_neg oo, if_neg ok, if_neg oo, if_neg ok, nI_clamp (show k + i < 2 ^ 31 by omega), nI_clamp (show k < 2 ^ 31 by omega), cmpR _ hlt, if_pos (decide_eq_true (h2 i (by omega))), nI_1]
    exact ih (i + 1) (by omega) (by omega) f (by omega)
/-- all, from the k-th on: as the class reckons -/
theorem ca_loop (hN : 1048576 ≤ N) (hr : rpR L pa pb pn) (hb : ∀ y, y ∈ L → eb y) (hl : L.length ≤ 14) (t : Nat) (ra rb : Int64) (th on un : Int32) : ∀ (j k : Nat), L.length - k ≤ j → k ≤ L.length → (k = L.length ∨ rpb t L (t + k) = false) → ∀ (f : Nat) (s0 s1 : Int × Int × Int) (x : Int) (d : Int32), j < f → ∃ (p' q' c' : Int) (d' : Int32), f_X11_countsAll_40 N f (nI k) ra rb th (nI L.length) on un (lI (s0.1 * s0.2.1)) (lI (s1.1 * s1.2.1)) (lI x) d pa pb pn = some (ra, rb, th, nI L.length, on, un, lI p', lI q', lI c', d', pa, pb, pn) ∧ (foldF (stD false) (rpb t L) (nmv t L) (L.length - k) (t + k) s0).1 * (foldF (stD false) (rpb t L) (nmv t L) (L.length - k) (t + k) s0).2.1 = p' ∧ (foldF (stD true) (rpb t L) (nmv t L) (L.length - k) (t + k) s1).1 * (foldF (stD true) (rpb t L) (nmv t L) (L.length - k) (t + k) s1).2.1 = q' ∧ foldF stP (rpb t L) (nmv t L) (L.length - k) (t + k) x = c' ∧ foldF stS (rpb t L) (nmv t L) (L.length - k) (t + k) d = d' := by
  intro j
  induction j with
  | zero =>
    intro k hk hk' hb0 f s0 s1 x d hf
    obtain ⟨f, rfl⟩ : ∃ f', f = f' + 1 := ⟨f - 1, by omega⟩
    obtain rfl : k = L.length := by omega
    rw [f_X11_countsAll_40, if_pos (nI_le (by omega) (by omega)), Nat.sub_self]
    exact ⟨_, _, _, _, rfl, rfl, rfl, rfl, rfl⟩
  | succ j ih =>
    intro k hk hk' hb0 f s0 s1 x d hf
    by_cases ce : k = L.length
    · exact ih k (by omega) hk' hb0 f s0 s1 x d (by omega)
    · obtain ⟨f, rfl⟩ : ∃ f', f = f' + 1 := ⟨f - 1, by omega⟩
      have hkl : k < L.length := by omega
      have rp0 : rpb t L (t + k) = false := by
        rcases hb0 with z | z
        · exact absurd z ce
        · exact z
      obtain ⟨o, o1, o2, o3⟩ := run_ex hkl
      have ok := nI_in (show k < 40 by omega) (by decide)
      have bn := eb_n32 (hb _ (List.getElem_mem hkl))
      have hgr := gr_all (rp := rpb t L) (nm := nmv t L) (n := en L[k]) (o := o) (i := t + k) rp0 (by unfold nmv; rw [if_neg (by omega), show t + k - t = k by omega, getD_of hkl]) (fun j j1 j2 => by
        have a1 := o2 j (by omega)
        have a0 := o2 (j - 1) (by omega)
        constructor
        · unfold rpb
          rw [if_neg (by omega), show t + k + j - t = k + j by omega, show k + j - 1 = k + (j - 1) by omega, a1, a0]
          simp; omega
        · unfold nmv
          rw [if_neg (by omega), show t + k + j - t = k + j by omega, a1, getD_of hkl])
      obtain ⟨g0, g1, g2, g3⟩ := hgr
      obtain ⟨q0, g0⟩ := g0 s0
      obtain ⟨q1, g1⟩ := g1 s1
      have sp : L.length - k = (o + 1) + (L.length - (k + (o + 1))) := by omega
      have nb : k + (o + 1) = L.length ∨ rpb t L (t + (k + (o + 1))) = false := by
        by_cases c1 : k + (o + 1) = L.length
        · exact Or.inl c1
        · right
          rcases o3 with z | z
          · omega
          · unfold rpb
            have a0 := o2 o (by omega)
            rw [if_neg (by omega), show t + (k + (o + 1)) - t = k + o + 1 by omega, show k + o + 1 - 1 = k + o by omega, a0]
            simp only [decide_eq_false_iff_not]
            exact fun y => z y.2
      obtain ⟨p', q', c', d', e, r1, r2, r3, r4⟩ := ih (k + (o + 1)) (by omega) (by omega) nb f (s0.1 * s0.2.1, ((o + 1 : Nat) : Int) + 1, q0) (s1.1 * s1.2.1, gs (en L[k]) (o + 1), q1) (x * ((en L[k] - 1) * en L[k] ^ o)) (if o = 0 then -d else 0) (by omega)
      refine ⟨p', q', c', d', ?_, ?_, ?_, ?_, ?_⟩
      · rw [f_X11_countsAll_40, if_neg (nI_ge hkl (by omega)), show (1 : Int32) = nI 1 from rfl, ca_run hr hb hl (f_X11_countsAll_40 N f) o1 o2 o3 ra rb th on un _ _ _ d o 1 (by omega) (by omega) N (by omega)]
        unfold f_X11_countsAll_113
        rw [if_neg ok, nI_clamp (by omega), (hr k hkl).2.2, iI_l bn, s_counts hN _ _ _ _ _ (by omega), Option.bind_some, nI_add]
        exact e
      · rw [sp, foldF_app, g0, show t + k + (o + 1) = t + (k + (o + 1)) by omega]; exact r1
      · rw [sp, foldF_app, g1, show t + k + (o + 1) = t + (k + (o + 1)) by omega]; exact r2
      · rw [sp, foldF_app, g2, show t + k + (o + 1) = t + (k + (o + 1)) by omega]; exact r3
      · rw [sp, foldF_app, g3, show t + k + (o + 1) = t + (k + (o + 1)) by omega]; exact r4
end DIVR
