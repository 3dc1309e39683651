/-! ===== numbers a + b w ===== -/
theorem mul_bd {a b M K : Int} (h1 : -M ≤ a) (h2 : a ≤ M) (h3 : -K ≤ b) (h4 : b ≤ K) : -(M * K) ≤ a * b ∧ a * b ≤ M * K := by
  have p1 := Int.mul_nonneg (show 0 ≤ M - a by omega) (show 0 ≤ K + b by omega)
  have p2 := Int.mul_nonneg (show 0 ≤ M + a by omega) (show 0 ≤ K - b by omega)
  have p3 := Int.mul_nonneg (show 0 ≤ M - a by omega) (show 0 ≤ K - b by omega)
  have p4 := Int.mul_nonneg (show 0 ≤ M + a by omega) (show 0 ≤ K + b by omega)
  have e1 : (M - a) * (K + b) + (M + a) * (K - b) = 2 * (M * K) - 2 * (a * b) := by grind
  have e2 : (M - a) * (K - b) + (M + a) * (K + b) = 2 * (M * K) + 2 * (a * b) := by grind
  omega
def em (x y : Int × Int) : Int × Int := (x.1 * y.1 - x.2 * y.2, x.1 * y.2 + x.2 * y.1 - x.2 * y.2)
def esb (x y : Int × Int) : Int × Int := (x.1 - y.1, x.2 - y.2)
def ead (x y : Int × Int) : Int × Int := (x.1 + y.1, x.2 + y.2)
def en (x : Int × Int) : Int := nrm x.1 x.2
def ec (x : Int × Int) : Int × Int := (x.1 - x.2, -x.2)
def ed (x y : Int × Int) : Prop := ∃ q, y = em x q
theorem e_ext {x y : Int × Int} (h1 : x.1 = y.1) (h2 : x.2 = y.2) : x = y := Prod.ext h1 h2
theorem em_comm (x y : Int × Int) : em x y = em y x := by
  apply e_ext <;> simp only [em] <;> grind
theorem em_assoc (x y z : Int × Int) : em (em x y) z = em x (em y z) := by
  apply e_ext <;> simp only [em] <;> grind
theorem em_one (x : Int × Int) : em (1, 0) x = x := by
  apply e_ext <;> simp only [em] <;> grind
theorem em_one' (x : Int × Int) : em x (1, 0) = x := by rw [em_comm, em_one]
theorem em_zero (x : Int × Int) : em x (0, 0) = (0, 0) := by
  apply e_ext <;> simp only [em] <;> grind
theorem em_zero' (x : Int × Int) : em (0, 0) x = (0, 0) := by rw [em_comm, em_zero]
theorem em_add (x y z : Int × Int) : em x (ead y z) = ead (em x y) (em x z) := by
  apply e_ext <;> simp only [em, ead] <;> grind
theorem em_sub (x y z : Int × Int) : em x (esb y z) = esb (em x y) (em x z) := by
  apply e_ext <;> simp only [em, esb] <;> grind
theorem en_em (x y : Int × Int) : en (em x y) = en x * en y := by
  simp only [en, em, nrm]; grind
theorem en_ec (x : Int × Int) : en (ec x) = en x := by
  simp only [en, ec, nrm]; grind
theorem em_ec (x : Int × Int) : em x (ec x) = (en x, 0) := by
  apply e_ext <;> simp only [em, ec, en, nrm] <;> grind
theorem ec_em (x y : Int × Int) : ec (em x y) = em (ec x) (ec y) := by
  apply e_ext <;> simp only [em, ec] <;> grind
theorem ec_ec (x : Int × Int) : ec (ec x) = x := by
  apply e_ext <;> simp only [ec] <;> grind
theorem en_nn (x : Int × Int) : 0 ≤ en x := nrm_nn x.1 x.2
theorem nrm4 (a b : Int) : 4 * nrm a b = (2 * a - b) * (2 * a - b) + 3 * (b * b) := by unfold nrm; grind
theorem nrm4' (a b : Int) : 4 * nrm a b = (2 * b - a) * (2 * b - a) + 3 * (a * a) := by unfold nrm; grind
theorem sq_pos {a : Int} (h : a ≠ 0) : 1 ≤ a * a := by
  rcases Int.lt_or_gt_of_ne h with h | h
  · have := Int.mul_pos_of_neg_of_neg h h; omega
  · have := Int.mul_pos h h; omega
theorem nrm_0 {a b : Int} : nrm a b = 0 ↔ a = 0 ∧ b = 0 := by
  constructor
  · intro h
    have e := nrm4 a b
    have e' := nrm4' a b
    have s1 := sq_nn (2 * a - b)
    have s2 := sq_nn (2 * b - a)
    constructor
    · by_cases c : a = 0
      · exact c
      · have := sq_pos c; omega
    · by_cases c : b = 0
      · exact c
      · have := sq_pos c; omega
  · rintro ⟨rfl, rfl⟩; rfl
theorem en_0 {x : Int × Int} : en x = 0 ↔ x = (0, 0) := by
  unfold en; rw [nrm_0]
  constructor
  · rintro ⟨h1, h2⟩; exact e_ext h1 h2
  · rintro rfl; exact ⟨rfl, rfl⟩
theorem en_pos {x : Int × Int} (h : x ≠ (0, 0)) : 1 ≤ en x := by
  have h1 := en_nn x
  have h2 : en x ≠ 0 := fun z => h (en_0.mp z)
  omega
theorem em_cancel {x y z : Int × Int} (hx : x ≠ (0, 0)) (h : em x y = em x z) : y = z := by
  have h1 : em (ec x) (em x y) = em (ec x) (em x z) := by rw [h]
  rw [← em_assoc, ← em_assoc, em_comm (ec x) x, em_ec] at h1
  have hp := en_pos hx
  have a1 : en x * y.1 = en x * z.1 := by
    have := congrArg Prod.fst h1; simp only [em] at this; simpa using this
  have a2 : en x * y.2 = en x * z.2 := by
    have := congrArg Prod.snd h1; simp only [em] at this; simpa using this
  exact e_ext (Int.eq_of_mul_eq_mul_left (by omega) a1) (Int.eq_of_mul_eq_mul_left (by omega) a2)
theorem em_ne {x y : Int × Int} (hx : x ≠ (0, 0)) (hy : y ≠ (0, 0)) : em x y ≠ (0, 0) := by
  intro h
  have := congrArg en h
  rw [en_em] at this
  have e0 : en (0, 0) = 0 := rfl
  rw [e0] at this
  rcases Int.mul_eq_zero.mp this with h | h
  · exact hx (en_0.mp h)
  · exact hy (en_0.mp h)
theorem em_ne' {x y : Int × Int} (h : em x y ≠ (0, 0)) : x ≠ (0, 0) ∧ y ≠ (0, 0) :=
  ⟨fun z => h (by rw [z, em_zero']), fun z => h (by rw [z, em_zero])⟩
theorem ed_refl (x : Int × Int) : ed x x := ⟨(1, 0), (em_one' x).symm⟩
theorem ed_zero (x : Int × Int) : ed x (0, 0) := ⟨(0, 0), (em_zero x).symm⟩
theorem ed_one (x : Int × Int) : ed (1, 0) x := ⟨x, (em_one x).symm⟩
theorem ed_trans {x y z : Int × Int} (h1 : ed x y) (h2 : ed y z) : ed x z := by
  obtain ⟨p, rfl⟩ := h1
  obtain ⟨q, rfl⟩ := h2
  exact ⟨em p q, em_assoc x p q⟩
theorem ed_mul (x y : Int × Int) : ed x (em x y) := ⟨y, rfl⟩
theorem ed_mul' (x y : Int × Int) : ed x (em y x) := ⟨y, em_comm y x⟩
theorem ed_mulr {x y : Int × Int} (h : ed x y) (z : Int × Int) : ed x (em y z) := ed_trans h (ed_mul y z)
theorem ed_mull {x y : Int × Int} (h : ed x y) (z : Int × Int) : ed x (em z y) := ed_trans h (ed_mul' y z)
theorem ed_add {x y z : Int × Int} (h1 : ed x y) (h2 : ed x z) : ed x (ead y z) := by
  obtain ⟨p, rfl⟩ := h1
  obtain ⟨q, rfl⟩ := h2
  exact ⟨ead p q, (em_add x p q).symm⟩
theorem ed_sub {x y z : Int × Int} (h1 : ed x y) (h2 : ed x z) : ed x (esb y z) := by
  obtain ⟨p, rfl⟩ := h1
  obtain ⟨q, rfl⟩ := h2
  exact ⟨esb p q, (em_sub x p q).symm⟩
theorem esb_ead (x y : Int × Int) : ead (esb x y) y = x := by
  apply e_ext <;> simp only [ead, esb] <;> omega
theorem ed_esb {x y z : Int × Int} (h1 : ed x (esb y z)) (h2 : ed x z) : ed x y := by
  have := ed_add h1 h2; rwa [esb_ead] at this
theorem esb_swap (x y : Int × Int) : esb y x = em (-1, 0) (esb x y) := by
  apply e_ext <;> simp only [em, esb] <;> grind
theorem ed_swap {m x y : Int × Int} (h : ed m (esb x y)) : ed m (esb y x) := by
  rw [esb_swap]; exact ed_mull h _
/-- m divides z just when its norm divides both parts of z times m turned -/
theorem ed_iff {m z : Int × Int} (hm : m ≠ (0, 0)) : ed m z ↔ (en m ∣ (em z (ec m)).1 ∧ en m ∣ (em z (ec m)).2) := by
  constructor
  · rintro ⟨q, rfl⟩
    rw [em_comm m q, em_assoc, em_ec]
    exact ⟨⟨q.1, by simp only [em]; grind⟩, ⟨q.2, by simp only [em]; grind⟩⟩
  · rintro ⟨⟨s, hs⟩, ⟨t, ht⟩⟩
    refine ⟨(s, t), ?_⟩
    apply em_cancel (x := ec m)
    · intro h; apply hm; rw [← ec_ec m, h]; rfl
    · rw [← em_assoc, em_comm (ec m) m, em_ec, em_comm (ec m) z]
      apply e_ext
      · rw [hs]; simp only [em]; grind
      · rw [ht]; simp only [em]; grind
theorem en_ed {x y : Int × Int} (h : ed x y) : en x ∣ en y := by
  obtain ⟨q, rfl⟩ := h
  exact ⟨en q, en_em x q⟩
theorem en_ed_le {x y : Int × Int} (h : ed x y) (hy : y ≠ (0, 0)) : en x ≤ en y :=
  Int.le_of_dvd (by have := en_pos hy; omega) (en_ed h)
/-- the six units -/
theorem sq1 {a : Int} (h : a * a ≤ 1) : -1 ≤ a ∧ a ≤ 1 := by
  constructor
  · by_cases c : -1 ≤ a
    · exact c
    · have := Int.mul_nonneg (show 0 ≤ -a - 2 by omega) (show 0 ≤ -a - 2 by omega)
      have e : (-a - 2) * (-a - 2) = a * a + 4 * a + 4 := by grind
      have := Int.mul_nonneg (show 0 ≤ -a - 2 by omega) (show 0 ≤ -a + 2 by omega)
      have e : (-a - 2) * (-a + 2) = a * a - 4 := by grind
      omega
  · by_cases c : a ≤ 1
    · exact c
    · have := Int.mul_nonneg (show 0 ≤ a - 2 by omega) (show 0 ≤ a + 2 by omega)
      have e : (a - 2) * (a + 2) = a * a - 4 := by grind
      omega
theorem en_1 {x : Int × Int} (h : en x = 1) : x = (1, 0) ∨ x = (1, 1) ∨ x = (0, 1) ∨ x = (-1, 0) ∨ x = (-1, -1) ∨ x = (0, -1) := by
  obtain ⟨a, b⟩ := x
  have e := nrm4 a b
  have e' := nrm4' a b
  have h' : nrm a b = 1 := h
  have s1 := sq_nn (2 * a - b)
  have s2 := sq_nn (2 * b - a)
  have ha := sq1 (a := a) (by omega)
  have hb := sq1 (a := b) (by omega)
  have hd : a * b = a * a + b * b - 1 := by unfold nrm at h'; omega
  have ha' : a = -1 ∨ a = 0 ∨ a = 1 := by omega
  have hb' : b = -1 ∨ b = 0 ∨ b = 1 := by omega
  rcases ha' with rfl | rfl | rfl <;> rcases hb' with rfl | rfl | rfl <;> simp at hd ⊢
theorem en_unit {x : Int × Int} (h : en x = 1) : em x (ec x) = (1, 0) := by rw [em_ec, h]
theorem ed_unit {x : Int × Int} (h : en x = 1) (y : Int × Int) : ed x y := ⟨em (ec x) y, by rw [← em_assoc, en_unit h, em_one]⟩
/-! ===== parting with the least rest ===== -/
def rnd (v m : Int) : Int := (2 * v + m) / (2 * m)
theorem rnd_bd {v m : Int} (hm : 0 < m) : -m ≤ 2 * (v - rnd v m * m) ∧ 2 * (v - rnd v m * m) < m := by
  unfold rnd
  have h1 := Int.emod_nonneg (2 * v + m) (show 2 * m ≠ 0 by omega)
  have h2 := Int.emod_lt_of_pos (2 * v + m) (show 0 < 2 * m by omega)
  have h3 := Int.mul_ediv_add_emod (2 * v + m) (2 * m)
  have e : 2 * m * ((2 * v + m) / (2 * m)) = 2 * ((2 * v + m) / (2 * m) * m) := by grind
  omega
theorem rnd_ex {q m : Int} (hm : 0 < m) : rnd (q * m) m = q := by
  have h := rnd_bd (v := q * m) hm
  have e : q * m - rnd (q * m) m * m = (q - rnd (q * m) m) * m := by grind
  rw [e] at h
  by_cases c : q - rnd (q * m) m = 0
  · omega
  · exfalso
    by_cases c1 : 1 ≤ q - rnd (q * m) m
    · have := Int.mul_le_mul_of_nonneg_right c1 (show 0 ≤ m by omega); omega
    · have := Int.mul_le_mul_of_nonneg_right (show q - rnd (q * m) m ≤ -1 by omega) (show 0 ≤ m by omega); omega
def eq_ (x y : Int × Int) : Int × Int := (rnd (em x (ec y)).1 (en y), rnd (em x (ec y)).2 (en y))
def er (x y : Int × Int) : Int × Int := esb x (em (eq_ x y) y)
theorem er_norm {x y : Int × Int} (hy : y ≠ (0, 0)) : 4 * en (er x y) ≤ 3 * en y := by
  have hp := en_pos hy
  have e : em (er x y) (ec y) = ((em x (ec y)).1 - (eq_ x y).1 * en y, (em x (ec y)).2 - (eq_ x y).2 * en y) := by
    unfold er
    rw [em_comm, em_sub, em_comm (ec y) (em (eq_ x y) y), em_assoc, em_ec, em_comm (ec y) x]
    apply e_ext <;> simp only [esb, em] <;> grind
  have h1 := rnd_bd (v := (em x (ec y)).1) (m := en y) (by omega)
  have h2 := rnd_bd (v := (em x (ec y)).2) (m := en y) (by omega)
  have e3 : en (em (er x y) (ec y)) = en (er x y) * en y := by rw [en_em, en_ec]
  rw [e] at e3
  have h3 : nrm (2 * ((em x (ec y)).1 - (eq_ x y).1 * en y)) (2 * ((em x (ec y)).2 - (eq_ x y).2 * en y)) ≤ 3 * (en y * en y) := nrm_le (M := en y) (by simp only [eq_]; omega) (by simp only [eq_]; omega) (by simp only [eq_]; omega) (by simp only [eq_]; omega)
  have e4 : nrm (2 * ((em x (ec y)).1 - (eq_ x y).1 * en y)) (2 * ((em x (ec y)).2 - (eq_ x y).2 * en y)) = 4 * en ((em x (ec y)).1 - (eq_ x y).1 * en y, (em x (ec y)).2 - (eq_ x y).2 * en y) := by
    simp only [nrm, en]; grind
  rw [e4, e3] at h3
  have e5 : 4 * (en (er x y) * en y) = (4 * en (er x y)) * en y := by grind
  have e6 : 3 * (en y * en y) = (3 * en y) * en y := by grind
  rw [e5, e6] at h3
  exact Int.le_of_mul_le_mul_right h3 (by omega)
theorem er_zero {x y : Int × Int} (hy : y ≠ (0, 0)) : er x y = (0, 0) ↔ ed y x := by
  constructor
  · intro h
    refine ⟨eq_ x y, ?_⟩
    rw [em_comm]
    have h1 := congrArg Prod.fst h
    have h2 := congrArg Prod.snd h
    simp only [er, esb] at h1 h2
    apply e_ext <;> omega
  · rintro ⟨q, rfl⟩
    have hp := en_pos hy
    have e : em (em y q) (ec y) = (q.1 * en y, q.2 * en y) := by
      rw [em_comm y q, em_assoc, em_ec]
      apply e_ext <;> simp only [em] <;> grind
    unfold er eq_
    rw [e]
    simp only [rnd_ex (show 0 < en y by omega)]
    apply e_ext <;> simp only [esb, em] <;> grind
