/-! ===== primes among the numbers, and that what is written is one alone ===== -/
theorem e_gcd : ∀ (j : Nat) (x y : Int × Int), en y < j → ∃ g u v : Int × Int, g = ead (em u x) (em v y) ∧ ed g x ∧ ed g y := by
  intro j
  induction j with
  | zero => intro x y h; have := en_nn y; omega
  | succ j ih =>
    intro x y h
    by_cases c : y = (0, 0)
    · subst c
      exact ⟨x, (1, 0), (0, 0), by rw [em_one, em_zero]; exact e_ext (by simp only [ead]; omega) (by simp only [ead]; omega), ed_refl x, ed_zero x⟩
    · have h1 := er_norm (x := x) c
      have h2 := en_pos c
      obtain ⟨g, u, v, e, d1, d2⟩ := ih y (er x y) (by omega)
      refine ⟨g, v, esb u (em v (eq_ x y)), ?_, ?_, d1⟩
      · rw [e]
        unfold er
        obtain ⟨q, hq⟩ : ∃ q, q = eq_ x y := ⟨_, rfl⟩
        rw [← hq]
        refine e_ext ?_ ?_ <;> · simp only [ead, em, esb]; grind
      · exact ed_esb (z := em (eq_ x y) y) d2 (ed_mull d1 _)
theorem e_bez (x y : Int × Int) : ∃ g u v : Int × Int, g = ead (em u x) (em v y) ∧ ed g x ∧ ed g y := e_gcd ((en y).toNat + 1) x y (by have := en_nn y; omega)
theorem cop_symm {x y : Int × Int} (h : cop x y) : cop y x := by
  obtain ⟨u, v, e⟩ := h
  refine ⟨v, u, ?_⟩
  rw [← e]
  exact e_ext (by simp only [ead]; omega) (by simp only [ead]; omega)
def ep (x : Int × Int) : Prop := 1 < en x ∧ ∀ y z : Int × Int, x = em y z → en y = 1 ∨ en z = 1
theorem en_one : en (1, 0) = 1 := rfl
theorem ep_ne {p : Int × Int} (h : ep p) : p ≠ (0, 0) := fun z => by
  have h1 := h.1
  rw [z] at h1
  exact absurd h1 (by decide)
theorem cop_of_unit {g u v x y : Int × Int} (e : g = ead (em u x) (em v y)) (h : en g = 1) : cop x y := by
  refine ⟨em (ec g) u, em (ec g) v, ?_⟩
  rw [em_assoc, em_assoc, ← em_add, ← e, em_comm, en_unit h]
theorem ep_cop {p y : Int × Int} (h : ep p) (hd : ¬ ed p y) : cop p y := by
  obtain ⟨g, u, v, e, ⟨q, hq⟩, d2⟩ := e_bez p y
  rcases h.2 g q hq with z | z
  · exact cop_of_unit e z
  · exfalso
    have : ed p g := ⟨ec q, by rw [hq, em_assoc, en_unit z, em_one']⟩
    exact hd (ed_trans this d2)
theorem ep_mul {p y z : Int × Int} (h : ep p) (hd : ed p (em y z)) : ed p y ∨ ed p z := by
  by_cases c : ed p y
  · exact Or.inl c
  · exact Or.inr (cop_cancel (cop_symm (ep_cop h c)) hd)
theorem rp_mul {p a b : Nat} (h : rp p) (hd : p ∣ a * b) : p ∣ a ∨ p ∣ b := by
  rcases h.2 (Nat.gcd p a) (Nat.gcd_dvd_left p a) with y | y
  · exact Or.inr (Nat.Coprime.dvd_of_dvd_mul_left (show Nat.Coprime p a from y) hd)
  · left; rw [← y]; exact Nat.gcd_dvd_right p a
theorem en_nat (x : Int × Int) : ∃ n : Nat, en x = n := ⟨(en x).toNat, by have := en_nn x; omega⟩
theorem en_mod3 (x : Int × Int) : en x % 3 = ((x.1 + x.2) * (x.1 + x.2)) % 3 := by
  have : en x = (x.1 + x.2) * (x.1 + x.2) - 3 * (x.1 * x.2) := by unfold en nrm; grind
  rw [this]; omega
theorem sq_mod3 (t : Int) : (t * t) % 3 = 0 ∧ t % 3 = 0 ∨ (t * t) % 3 = 1 ∧ t % 3 ≠ 0 := by
  have h : (t * t) % 3 = ((t % 3) * (t % 3)) % 3 := Int.mul_emod t t 3
  have h3 : t % 3 = 0 ∨ t % 3 = 1 ∨ t % 3 = 2 := by omega
  rcases h3 with c | c | c <;> · rw [c] at h ⊢; omega
theorem en_n2 (x : Int × Int) : en x % 3 ≠ 2 := by
  rw [en_mod3]
  rcases sq_mod3 (x.1 + x.2) with z | z <;> omega
theorem en_m3 {x : Int × Int} : en x % 3 = 0 ↔ (x.1 + x.2) % 3 = 0 := by
  rw [en_mod3]
  rcases sq_mod3 (x.1 + x.2) with z | z <;> omega
theorem ep_norm {x : Int × Int} {p : Nat} (h : rp p) (e : en x = p) : ep x := by
  refine ⟨by have := h.1; omega, fun y z hx => ?_⟩
  obtain ⟨a, ha⟩ := en_nat y
  obtain ⟨b, hb⟩ := en_nat z
  have hm := en_em y z
  rw [← hx, e, ha, hb] at hm
  have hm' : p = a * b := by
    have : ((p : Nat) : Int) = ((a * b : Nat) : Int) := by rw [hm, Int.natCast_mul]
    omega
  rcases h.2 a ⟨b, hm'⟩ with c | c
  · left; rw [ha, c]; rfl
  · right
    subst c
    have : b = 1 := by
      have h2 := h.1
      have : a * b = a * 1 := by omega
      exact Nat.eq_of_mul_eq_mul_left (by omega) this
    rw [hb, this]; rfl
theorem ep_inert {q : Nat} (h : rp q) (h3 : q % 3 = 2) : ep ((q : Int), 0) := by
  have hq := h.1
  have e0 : en ((q : Int), 0) = ((q * q : Nat) : Int) := by unfold en nrm; simp
  have q4 := Nat.mul_le_mul hq hq
  refine ⟨by rw [e0]; omega, fun y z hx => ?_⟩
  obtain ⟨a, ha⟩ := en_nat y
  obtain ⟨b, hb⟩ := en_nat z
  have hm := en_em y z
  rw [← hx, e0, ha, hb] at hm
  have hm' : q * q = a * b := by
    have : ((q * q : Nat) : Int) = ((a * b : Nat) : Int) := by rw [hm, Int.natCast_mul]
    omega
  have na := en_n2 y
  have nb := en_n2 z
  have key : ∀ a b : Nat, q * q = a * b → b % 3 ≠ 2 → q ∣ a → b = 1 := by
    intro a b e n ⟨c, hc⟩
    have : q = c * b := by
      have : q * q = q * (c * b) := by rw [e, hc, Nat.mul_assoc]
      exact Nat.eq_of_mul_eq_mul_left (by omega) this
    rcases h.2 b ⟨c, by rw [this, Nat.mul_comm]⟩ with z | z
    · exact z
    · omega
  rcases rp_mul h (show q ∣ a * b from ⟨q, hm'.symm⟩) with c | c
  · right; rw [hb, key a b hm' (by omega) c]; rfl
  · left; rw [ha, key b a (by rw [hm', Nat.mul_comm]) (by omega) c]; rfl
/-- the primary primes -/
def gp (x : Int × Int) : Prop := prim x ∧ ((∃ q : Nat, rp q ∧ q % 3 = 2 ∧ x = ((q : Int), 0)) ∨ (∃ p : Nat, rp p ∧ p % 3 = 1 ∧ en x = p))
theorem gp_ep {x : Int × Int} (h : gp x) : ep x := by
  rcases h.2 with ⟨q, h1, h2, rfl⟩ | ⟨p, h1, h2, h3⟩
  · exact ep_inert h1 h2
  · exact ep_norm h1 h3
theorem gp_4 {x : Int × Int} (h : gp x) : 4 ≤ en x := by
  rcases h.2 with ⟨q, h1, h2, rfl⟩ | ⟨p, h1, h2, h3⟩
  · have e0 : en ((q : Int), 0) = ((q * q : Nat) : Int) := by unfold en nrm; simp
    have q4 := Nat.mul_le_mul h1.1 h1.1
    rw [e0]; omega
  · have := h1.1; omega
theorem gp_n3 {x : Int × Int} (h : gp x) : (x.1 + x.2) % 3 ≠ 0 := by
  obtain ⟨⟨h1, h2⟩, -⟩ := h
  omega
theorem prim_unit {x u : Int × Int} (h : prim x) (h' : prim (em x u)) (hu : en u = 1) : u = (1, 0) := by
  obtain ⟨a, b⟩ := x
  obtain ⟨h1, h2⟩ := h
  obtain ⟨h3, h4⟩ := h'
  simp only [em] at h1 h2 h3 h4
  rcases en_1 hu with z | z | z | z | z | z
  · exact z
  all_goals
    exfalso
    rw [z] at h3 h4
    simp only [] at h3 h4
    omega
theorem gp_eq {x y : Int × Int} (hx : gp x) (hy : gp y) (hd : ed x y) : x = y := by
  obtain ⟨u, hu⟩ := hd
  rcases (gp_ep hy).2 x u hu with z | z
  · have := gp_4 hx; omega
  · have := prim_unit hx.1 (by rw [← hu]; exact hy.1) z
    rw [hu, this, em_one']
def epr : List (Int × Int) → Int × Int
  | [] => (1, 0)
  | x :: L => em x (epr L)
theorem ep_list {p : Int × Int} (h : ep p) : ∀ L : List (Int × Int), ed p (epr L) → ∃ x, x ∈ L ∧ ed p x := by
  intro L
  induction L with
  | nil => intro hd; have h1 := h.1; have := ed_1 hd; omega
  | cons x L ih =>
    intro hd
    rcases ep_mul h hd with z | z
    · exact ⟨x, List.mem_cons_self, z⟩
    · obtain ⟨y, y1, y2⟩ := ih z
      exact ⟨y, List.mem_cons_of_mem _ y1, y2⟩
theorem gp_mem {p : Int × Int} (h : gp p) {L : List (Int × Int)} (hL : ∀ x, x ∈ L → gp x) (hd : ed p (epr L)) : p ∈ L := by
  obtain ⟨x, x1, x2⟩ := ep_list (gp_ep h) L hd
  rw [gp_eq h (hL x x1) x2]
  exact x1
def elt (x y : Int × Int) : Prop := en x < en y ∨ (en x = en y ∧ x.2 < y.2)
theorem elt_tri {x y : Int × Int} (hx : prim x) (hy : prim y) (h1 : ¬ elt x y) (h2 : ¬ elt y x) : x = y := by
  unfold elt at h1 h2
  have e1 : en x = en y := by omega
  have e2 : x.2 = y.2 := by omega
  obtain ⟨a, b⟩ := x
  obtain ⟨c, d⟩ := y
  simp only [] at e2
  subst e2
  obtain ⟨p1, p2⟩ := hx
  obtain ⟨p3, p4⟩ := hy
  simp only [] at p1 p2 p3 p4
  unfold en nrm at e1
  simp only [] at e1
  have k : (a - c) * (a + c - b) = 0 := by
    have : (a - c) * (a + c - b) = (a * a - a * b + b * b) - (c * c - c * b + b * b) := by grind
    rw [this, e1]; omega
  rcases Int.mul_eq_zero.mp k with z | z
  · rw [show a = c by omega]
  · omega
def srt (L : List (Int × Int)) : Prop := L.Pairwise (fun x y => ¬ elt y x)
theorem ed_cancel {x y z : Int × Int} (hx : x ≠ (0, 0)) (h : ed (em x y) (em x z)) : ed y z := by
  obtain ⟨q, hq⟩ := h
  rw [em_assoc] at hq
  exact ⟨q, em_cancel hx hq⟩
theorem gp_ne {x : Int × Int} (h : gp x) : x ≠ (0, 0) := ep_ne (gp_ep h)
/-- sorted primary primes of one product are the same -/
theorem epr_uniq : ∀ (L M : List (Int × Int)), (∀ x, x ∈ L → gp x) → (∀ x, x ∈ M → gp x) → srt L → srt M → ed (epr L) (epr M) → ed (epr M) (epr L) → L = M := by
  intro L
  induction L with
  | nil =>
    intro M hL hM sL sM h1 h2
    cases M with
    | nil => rfl
    | cons y M =>
      exfalso
      have hy := hM y List.mem_cons_self
      have := ed_1 (ed_trans (ed_mul y (epr M)) h2)
      have := gp_4 hy
      omega
  | cons x L ih =>
    intro M hL hM sL sM h1 h2
    have hx := hL x List.mem_cons_self
    cases M with
    | nil =>
      exfalso
      have := ed_1 (ed_trans (ed_mul x (epr L)) h1)
      have := gp_4 hx
      omega
    | cons y M =>
      have hy := hM y List.mem_cons_self
      have m1 := gp_mem hx hM (ed_trans (ed_mul x (epr L)) h1)
      have m2 := gp_mem hy hL (ed_trans (ed_mul y (epr M)) h2)
      have e : x = y := by
        by_cases c : x = y
        · exact c
        · rcases List.mem_cons.mp m1 with z | z
          · exact z
          · rcases List.mem_cons.mp m2 with w | w
            · exact w.symm
            · exact elt_tri hx.1 hy.1 ((List.pairwise_cons.mp sM).1 x z) ((List.pairwise_cons.mp sL).1 y w)
      subst e
      rw [ih M (fun z hz => hL z (List.mem_cons_of_mem _ hz)) (fun z hz => hM z (List.mem_cons_of_mem _ hz)) (List.pairwise_cons.mp sL).2 (List.pairwise_cons.mp sM).2 (ed_cancel (gp_ne hx) h1) (ed_cancel (gp_ne hx) h2)]
theorem epr_len : ∀ L : List (Int × Int), (∀ x, x ∈ L → gp x) → ((4 ^ L.length : Nat) : Int) ≤ en (epr L) := by
  intro L
  induction L with
  | nil => intro _; decide
  | cons x L ih =>
    intro h
    have i := ih (fun z hz => h z (List.mem_cons_of_mem _ hz))
    have g := gp_4 (h x List.mem_cons_self)
    show ((4 ^ (L.length + 1) : Nat) : Int) ≤ en (em x (epr L))
    rw [en_em, Nat.pow_succ, Int.natCast_mul, Int.mul_comm]
    have p : (0 : Int) ≤ ((4 ^ L.length : Nat) : Int) := Int.natCast_nonneg _
    have := Int.mul_le_mul g i p (by omega)
    simpa using this
theorem epr_app : ∀ L M : List (Int × Int), epr (L ++ M) = em (epr L) (epr M) := by
  intro L M
  induction L with
  | nil => show epr M = em (1, 0) (epr M); rw [em_one]
  | cons x L ih => show em x (epr (L ++ M)) = em (em x (epr L)) (epr M); rw [ih, em_assoc]
/-- put where it has its place -/
theorem ins_srt {L : List (Int × Int)} {x : Int × Int} {k : Nat} (hs : srt L) (h1 : ∀ j (hj : j < L.length), k ≤ j → elt x L[j]) (h2 : ∀ j (hj : j < L.length), j < k → ¬ elt x L[j]) : srt (L.take k ++ x :: L.drop k) := by
  unfold srt at hs ⊢
  rw [List.pairwise_append, List.pairwise_cons]
  refine ⟨hs.sublist (List.take_sublist k L), ⟨?_, hs.sublist (List.drop_sublist k L)⟩, ?_⟩
  · intro y hy
    obtain ⟨j, hj, e⟩ := List.mem_iff_getElem.mp hy
    rw [List.getElem_drop] at e
    rw [← e]
    have := h1 (k + j) (by rw [List.length_drop] at hj; omega) (by omega)
    unfold elt at this ⊢
    omega
  · intro a ha b hb
    obtain ⟨i, hi, ei⟩ := List.mem_iff_getElem.mp ha
    rw [List.getElem_take] at ei
    rw [List.length_take] at hi
    rcases List.mem_cons.mp hb with z | z
    · rw [z, ← ei]
      exact h2 i (by omega) (by omega)
    · obtain ⟨j, hj, ej⟩ := List.mem_iff_getElem.mp z
      rw [List.getElem_drop] at ej
      rw [List.length_drop] at hj
      rw [← ei, ← ej]
      exact List.pairwise_iff_getElem.mp hs i (k + j) (by omega) (by omega) (by omega)
theorem ins_epr (L : List (Int × Int)) (x : Int × Int) (k : Nat) : epr (L.take k ++ x :: L.drop k) = em x (epr L) := by
  rw [epr_app]
  show em (epr (L.take k)) (em x (epr (L.drop k))) = em x (epr L)
  rw [← em_assoc, em_comm (epr (L.take k)) x, em_assoc, ← epr_app, List.take_append_drop]
theorem ins_mem {L : List (Int × Int)} {x : Int × Int} {k : Nat} {P : Int × Int → Prop} (h : ∀ y, y ∈ L → P y) (hx : P x) : ∀ y, y ∈ L.take k ++ x :: L.drop k → P y := by
  intro y hy
  rcases List.mem_append.mp hy with z | z
  · exact h y (List.mem_of_mem_take z)
  · rcases List.mem_cons.mp z with w | w
    · rw [w]; exact hx
    · exact h y (List.mem_of_mem_drop w)
theorem ins_len (L : List (Int × Int)) (x : Int × Int) {k : Nat} (hk : k ≤ L.length) : (L.take k ++ x :: L.drop k).length = L.length + 1 := by
  rw [List.length_append, List.length_cons, List.length_take, List.length_drop]; omega
