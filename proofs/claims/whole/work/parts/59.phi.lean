/-! ===== how many classes are prime to a number ===== -/
theorem cb_bo (P : Nat → Bool) : ∀ n : Nat, cb P n = bo (· + ·) 0 (fun i => if P i then 1 else 0) n := by
  intro n
  induction n with
  | zero => rfl
  | succ n ih =>
    show cb P n + _ = bo (· + ·) 0 (fun i => if P i then 1 else 0) n + _
    rw [ih]
theorem cb_perm {P : Nat → Bool} {n : Nat} {F : Nat → Nat} (h1 : ∀ i, i < n → F i < n) (h2 : ∀ i j, i < n → j < n → F i = F j → i = j) : cb (fun i => P (F i)) n = cb P n := by
  rw [cb_bo, cb_bo]
  exact bo_perm Nat.add_assoc Nat.add_comm (fun i => if P i then 1 else 0) n F h1 h2
theorem cb_add (P : Nat → Bool) (a : Nat) : ∀ b : Nat, cb P (a + b) = cb P a + cb (fun i => P (a + i)) b := by
  intro b
  induction b with
  | zero => rfl
  | succ b ih =>
    show cb P (a + b) + (if P (a + b) then 1 else 0) = cb P a + (cb (fun i => P (a + i)) b + (if P (a + b) then 1 else 0))
    rw [ih, Nat.add_assoc]
theorem cb_rows {Q : Nat → Nat → Bool} {R : Nat → Bool} {p c : Nat} (hp : 0 < p) : ∀ n : Nat, (∀ i, i < n → cb (Q i) p = if R i then c else 0) → cb (fun k => Q (k / p) (k % p)) (n * p) = c * cb R n := by
  intro n
  induction n with
  | zero => intro _; rw [Nat.zero_mul]; rfl
  | succ n ih =>
    intro h
    rw [Nat.succ_mul, cb_add, ih (fun i hi => h i (by omega))]
    have e : cb (fun i => Q ((n * p + i) / p) ((n * p + i) % p)) p = cb (Q n) p := cb_congr p (fun i hi => by
      show Q ((n * p + i) / p) ((n * p + i) % p) = Q n i
      have e1 : (n * p + i) / p = n := by rw [Nat.mul_comm, Nat.mul_add_div hp, Nat.div_eq_of_lt hi, Nat.add_zero]
      have e2 : (n * p + i) % p = i := by rw [Nat.mul_comm, Nat.mul_add_mod, Nat.mod_eq_of_lt hi]
      rw [e1, e2])
    rw [e, h n (by omega)]
    show c * cb R n + _ = c * (cb R n + (if R n then 1 else 0))
    rw [Nat.mul_add]
    by_cases cR : R n = true
    · rw [if_pos cR, if_pos cR, Nat.mul_one]
    · rw [if_neg cR, if_neg cR, Nat.mul_zero]
theorem cop_cg {m x y : Int × Int} (h : cg m x y) (hx : cop x m) : cop y m := by
  obtain ⟨u, v, e⟩ := hx
  obtain ⟨q, hq⟩ := h
  refine ⟨u, ead v (em u q), ?_⟩
  rw [← e]
  have h1 : esb x y = em m q := hq
  have e1 : x.1 = y.1 + (em m q).1 := by rw [← h1]; simp only [esb]; omega
  have e2 : x.2 = y.2 + (em m q).2 := by rw [← h1]; simp only [esb]; omega
  refine e_ext ?_ ?_
  · simp only [ead, em] at e1 e2 ⊢
    rw [e1, e2]; grind
  · simp only [ead, em] at e1 e2 ⊢
    rw [e1, e2]; grind
theorem cop_prod {z m p : Int × Int} : cop z (em m p) ↔ cop z m ∧ cop z p := by
  constructor
  · rintro ⟨u, v, e⟩
    refine ⟨⟨u, em v p, ?_⟩, ⟨u, em v m, ?_⟩⟩
    · rw [em_assoc, em_comm p m]; exact e
    · rw [em_assoc]; exact e
  · rintro ⟨h1, h2⟩
    exact cop_symm (cop_mul (cop_symm h1) (cop_symm h2))
theorem cop_ep {z p : Int × Int} (hp : ep p) : cop z p ↔ ¬ ed p z := by
  constructor
  · rintro ⟨u, v, e⟩ hd
    have : ed p (1, 0) := by rw [← e]; exact ed_add (ed_mull hd _) (ed_mull (ed_refl p) _)
    have := ed_1 this
    have := hp.1
    omega
  · intro h
    exact cop_symm (ep_cop hp h)
noncomputable def copb (W : Nat) (m : Int × Int) (k : Nat) : Bool := @decide (cop (cl W k) m) (Classical.propDecidable _)
theorem copb_iff {W : Nat} {m : Int × Int} {k : Nat} : copb W m k = true ↔ cop (cl W k) m := by
  unfold copb
  exact @decide_eq_true_iff _ (Classical.propDecidable _)
noncomputable def phi (H W : Nat) (m : Int × Int) : Nat := cb (copb W m) (W * H)
theorem bool_ext {a b : Bool} (h : a = true ↔ b = true) : a = b := by
  cases a <;> cases b
  · rfl
  · exact absurd (h.mpr rfl) (by decide)
  · exact absurd (h.mp rfl) (by decide)
  · rfl
theorem cb_ne0 : ∀ p : Nat, 1 ≤ p → cb (fun k => decide (k ≠ 0)) p = p - 1 := by
  intro p
  induction p with
  | zero => intro h; omega
  | succ p ih =>
    intro _
    show cb (fun k => decide (k ≠ 0)) p + (if decide (p ≠ 0) = true then 1 else 0) = p + 1 - 1
    by_cases c : p = 0
    · subst c; rfl
    · rw [ih (by omega), if_pos (by simp only [decide_eq_true_eq]; exact c)]; omega
section PHI
variable {m q : Int × Int} {H W H1 W1 H2 W2 : Nat} {S S1 S2 : Int}
/-- one prime more -/
theorem phi_step (hm0 : m ≠ (0, 0)) (hq : ep q) (hB : bx m (H : Int) (W : Int) S) (hB1 : bx q (H1 : Int) (W1 : Int) S1) (hB2 : bx (em m q) (H2 : Int) (W2 : Int) S2) : (ed q m → phi H2 W2 (em m q) = W1 * H1 * phi H W m) ∧ (¬ ed q m → phi H2 W2 (em m q) = (W1 * H1 - 1) * phi H W m) := by
  obtain ⟨b1, b2, b3, b4⟩ := bx_pos hB
  obtain ⟨d1, d2, d3, d4⟩ := bx_pos hB1
  obtain ⟨f1, f2, f3, f4⟩ := bx_pos hB2
  obtain ⟨n, hn⟩ : ∃ n, n = W * H := ⟨_, rfl⟩
  obtain ⟨p, hp⟩ : ∃ p, p = W1 * H1 := ⟨_, rfl⟩
  have hnp : W2 * H2 = n * p := by
    have : ((W2 * H2 : Nat) : Int) = ((n * p : Nat) : Int) := by rw [f4, en_em, ← b4, ← d4, ← hn, ← hp, Int.natCast_mul]
    exact Int.ofNat.inj this
  have p2 : 2 ≤ p := by have := hq.1; omega
  -- the classes by the product: one by m, so many times m of one by q
  obtain ⟨Z, hZ⟩ : ∃ Z : Nat → Nat → Int × Int, Z = fun i j => ead (cl W i) (em m (cl W1 j)) := ⟨_, rfl⟩
  have zi : ∀ i j, cg m (Z i j) (cl W i) := by
    intro i j
    refine ⟨cl W1 j, ?_⟩
    rw [hZ]
    exact e_ext (by simp only [esb, ead]; omega) (by simp only [esb, ead]; omega)
  have inj : ∀ i j i' j', i < n → j < p → i' < n → j' < p → cg (em m q) (Z i j) (Z i' j') → i = i' ∧ j = j' := by
    intro i j i' j' hi hj hi' hj' hc
    have c1 : cg m (Z i j) (Z i' j') := ed_trans (ed_mul m q) hc
    have c2 : cg m (cl W i) (cl W i') := cg_trans (cg_symm (zi i j)) (cg_trans c1 (zi i' j'))
    have r1 := cl_isR (H := H) (W := W) (k := i) (by omega)
    have r2 := cl_isR (H := H) (W := W) (k := i') (by omega)
    have e1 := (cg_iff hB).mpr c2
    rw [rs_fix r1.1 r1.2.1 r1.2.2.1 r1.2.2.2, rs_fix r2.1 r2.2.1 r2.2.2.1 r2.2.2.2] at e1
    have ei := cl_inj e1
    subst ei
    refine ⟨rfl, ?_⟩
    have e3 : esb (Z i j) (Z i j') = em m (esb (cl W1 j) (cl W1 j')) := by
      rw [hZ, em_sub]
      exact e_ext (by simp only [esb, ead]; omega) (by simp only [esb, ead]; omega)
    have c3 : ed (em m q) (em m (esb (cl W1 j) (cl W1 j'))) := by rw [← e3]; exact hc
    have c4 : cg q (cl W1 j) (cl W1 j') := ed_cancel hm0 c3
    have s1 := cl_isR (H := H1) (W := W1) (k := j) (by omega)
    have s2 := cl_isR (H := H1) (W := W1) (k := j') (by omega)
    have e4 := (cg_iff hB1).mpr c4
    rw [rs_fix s1.1 s1.2.1 s1.2.2.1 s1.2.2.2, rs_fix s2.1 s2.2.1 s2.2.2.1 s2.2.2.2] at e4
    exact cl_inj e4
  have P := cb_perm (P := copb W2 (em m q)) (n := n * p) (F := fun k => plc W2 (rs H2 W2 S2 (Z (k / p) (k % p)))) (fun k hk => by
    have := plc_lt (rs_isR hB2 (Z (k / p) (k % p)))
    show plc W2 (rs H2 W2 S2 (Z (k / p) (k % p))) < n * p
    omega) (fun k k' hk hk' e => by
    have e1 := plc_inj (rs_isR hB2 _) (rs_isR hB2 _) e
    have m1 := Nat.mod_lt k (show 0 < p by omega)
    have m2 := Nat.mod_lt k' (show 0 < p by omega)
    have q1 : k / p < n := (Nat.div_lt_iff_lt_mul (by omega)).mpr hk
    have q2 : k' / p < n := (Nat.div_lt_iff_lt_mul (by omega)).mpr hk'
    obtain ⟨a, b⟩ := inj _ _ _ _ q1 m1 q2 m2 ((cg_iff hB2).mp e1)
    have := Nat.div_add_mod k p
    have := Nat.div_add_mod k' p
    rw [a, b] at *
    omega)
  have e0 : phi H2 W2 (em m q) = cb (fun k => copb W2 (em m q) (plc W2 (rs H2 W2 S2 (Z (k / p) (k % p))))) (n * p) := by
    unfold phi
    rw [hnp]; exact P.symm
  have cz : ∀ i j, copb W2 (em m q) (plc W2 (rs H2 W2 S2 (Z i j))) = true ↔ (cop (cl W i) m ∧ cop (Z i j) q) := by
    intro i j
    rw [copb_iff, cl_plc (rs_isR hB2 _)]
    have g := cg_rs hB2 (Z i j)
    constructor
    · intro h
      have h1 := cop_prod.mp (cop_cg (cg_symm g) h)
      exact ⟨cop_cg (zi i j) h1.1, h1.2⟩
    · rintro ⟨h1, h2⟩
      exact cop_cg g (cop_prod.mpr ⟨cop_cg (cg_symm (zi i j)) h1, h2⟩)
  constructor
  · intro hd
    have rows := cb_rows (Q := fun i j => copb W2 (em m q) (plc W2 (rs H2 W2 S2 (Z i j)))) (R := copb W m) (p := p) (c := p) (by omega) n (fun i hi => by
      have : cb (fun j => copb W2 (em m q) (plc W2 (rs H2 W2 S2 (Z i j)))) p = cb (fun _ => copb W m i) p := cb_congr p (fun j hj => by
        refine bool_ext ?_
        rw [cz, copb_iff]
        constructor
        · exact fun z => z.1
        · intro z
          refine ⟨z, ?_⟩
          obtain ⟨r, hr⟩ := hd
          have zz := cop_cg (cg_symm (zi i j)) z
          rw [hr] at zz
          exact (cop_prod.mp zz).1)
      rw [this]
      have cst : ∀ (b : Bool) (k : Nat), cb (fun _ => b) k = if b then k else 0 := by
        intro b k
        induction k with
        | zero => cases b <;> rfl
        | succ k ih =>
          show cb (fun _ => b) k + (if b then 1 else 0) = _
          rw [ih]; cases b <;> rfl
      exact cst _ _)
    rw [e0, rows, ← hp]
    unfold phi
    rw [← hn]
  · intro hd
    have rows := cb_rows (Q := fun i j => copb W2 (em m q) (plc W2 (rs H2 W2 S2 (Z i j)))) (R := copb W m) (p := p) (c := p - 1) (by omega) n (fun i hi => by
      by_cases ci : copb W m i = true
      · rw [if_pos ci]
        have ci' := copb_iff.mp ci
        have e1 : cb (fun j => copb W2 (em m q) (plc W2 (rs H2 W2 S2 (Z i j)))) p = cb (fun j => decide (plc W1 (rs H1 W1 S1 (Z i j)) ≠ 0)) p := cb_congr p (fun j hj => by
          refine bool_ext ?_
          rw [cz, decide_eq_true_iff, cop_ep hq]
          have hr := rs_isR hB1 (Z i j)
          have z0 : plc W1 (rs H1 W1 S1 (Z i j)) = 0 ↔ ed q (Z i j) := by
            constructor
            · intro z
              have := cl_plc hr
              rw [z] at this
              have e00 : cl W1 0 = (0, 0) := by unfold cl; simp
              rw [e00] at this
              exact (rs_0 hB1).mp this.symm
            · intro z
              rw [(rs_0 hB1).mpr z]
              unfold plc; simp
          constructor
          · exact fun z y => z.2 (z0.mp y)
          · exact fun z => ⟨ci', fun y => z (z0.mpr y)⟩)
        have e2 := cb_perm (P := fun k => decide (k ≠ 0)) (n := p) (F := fun j => plc W1 (rs H1 W1 S1 (Z i j))) (fun j hj => by
          have := plc_lt (rs_isR hB1 (Z i j))
          show plc W1 (rs H1 W1 S1 (Z i j)) < p
          omega) (fun j j' hj hj' e => by
          have e3 := (cg_iff hB1).mp (plc_inj (rs_isR hB1 _) (rs_isR hB1 _) e)
          have e4 : esb (Z i j) (Z i j') = em m (esb (cl W1 j) (cl W1 j')) := by
            rw [hZ, em_sub]
            exact e_ext (by simp only [esb, ead]; omega) (by simp only [esb, ead]; omega)
          have c3 : ed q (em m (esb (cl W1 j) (cl W1 j'))) := by rw [← e4]; exact e3
          rcases ep_mul hq c3 with z | z
          · exact absurd z hd
          · have s1 := cl_isR (H := H1) (W := W1) (k := j) (by omega)
            have s2 := cl_isR (H := H1) (W := W1) (k := j') (by omega)
            have e5 := (cg_iff hB1).mpr z
            rw [rs_fix s1.1 s1.2.1 s1.2.2.1 s1.2.2.2, rs_fix s2.1 s2.2.1 s2.2.2.1 s2.2.2.2] at e5
            exact cl_inj e5)
        rw [e1]
        rw [cb_ne0 p (by omega)] at e2
        exact e2
      · rw [if_neg ci]
        have e1 : cb (fun j => copb W2 (em m q) (plc W2 (rs H2 W2 S2 (Z i j)))) p = cb (fun _ => false) p := cb_congr p (fun j hj => by
          refine bool_ext ?_
          rw [cz]
          exact ⟨fun z => absurd (copb_iff.mpr z.1) ci, fun z => absurd z (by decide)⟩)
        rw [e1]
        have cst : ∀ k : Nat, cb (fun _ => false) k = 0 := by
          intro k
          induction k with
          | zero => rfl
          | succ k ih =>
            show cb (fun _ => false) k + 0 = 0
            rw [ih]
        exact cst p)
    rw [e0, rows, ← hp]
    unfold phi
    rw [← hn]
end PHI
/-- alike numbers have the same classes -/
theorem bx_alike {m m' : Int × Int} {H W S : Int} (h : bx m H W S) (h1 : ed m m') (h2 : ed m' m) (hn : en m = en m') : bx m' H W S := by
  obtain ⟨a1, a2, a3, a4, a5, a6, a7, a8⟩ := h
  exact ⟨a1, a2, by rw [← hn]; exact a3, a4, a5, ed_trans h2 a6, ed_trans h2 a7, fun x y hd => a8 x y (ed_trans h1 hd)⟩
theorem cop_alike {z m m' : Int × Int} (h : ed m' m) (hc : cop z m) : cop z m' := by
  obtain ⟨r, rfl⟩ := h
  exact (cop_prod.mp hc).1
theorem phi_alike {m m' : Int × Int} (H W : Nat) (h1 : ed m m') (h2 : ed m' m) : phi H W m = phi H W m' := cb_congr _ (fun k _ => bool_ext (by rw [copb_iff, copb_iff]; exact ⟨cop_alike h2, cop_alike h1⟩))
/-- the first i primes, 1 - w ahead -/
def mpr (t : Nat) (L : List (Int × Int)) (i : Nat) : Int × Int := if i ≤ t then e3 i else em (e3 t) (epr (L.take (i - t)))
def mat (t : Nat) (L : List (Int × Int)) (i : Nat) : Int × Int := if i < t then (1, -1) else L.getD (i - t) (0, 0)
theorem mpr_succ {t : Nat} {L : List (Int × Int)} {i : Nat} (hi : i < t + L.length) : mpr t L (i + 1) = em (mpr t L i) (mat t L i) := by
  unfold mpr mat
  by_cases c : i < t
  · rw [if_pos (by omega), if_pos (by omega), if_pos c]; rfl
  · have hk : i - t < L.length := by omega
    rw [if_neg (by omega), if_neg c, show i + 1 - t = (i - t) + 1 by omega, epr_take hk, getD_of hk]
    by_cases ce : i ≤ t
    · have : i = t := by omega
      rw [if_pos ce, show List.take (i - t) L = [] by rw [show i - t = 0 by omega]; rfl, show e3 i = e3 t by rw [this]]
      exact congrArg (em (e3 t)) (em_one _)
    · rw [if_neg ce, em_assoc]
theorem ep_three : ep (1, -1) := ep_norm (p := 3) ⟨by decide, fun d hd => by
  have l := Nat.le_of_dvd (by decide) hd
  have : d = 0 ∨ d = 1 ∨ d = 2 ∨ d = 3 := by omega
  rcases this with z | z | z | z
  · subst z; exact absurd (Nat.eq_zero_of_zero_dvd hd) (by decide)
  · exact Or.inl z
  · subst z; exact absurd hd (by decide)
  · exact Or.inr z⟩ rfl
theorem mat_ep {t : Nat} {L : List (Int × Int)} (hL : ∀ y, y ∈ L → gp y) {i : Nat} (hi : i < t + L.length) : ep (mat t L i) ∧ en (mat t L i) = nmv t L i := by
  unfold mat nmv
  by_cases c : i < t
  · rw [if_pos c, if_pos c]; exact ⟨ep_three, rfl⟩
  · have hk : i - t < L.length := by omega
    rw [if_neg c, if_neg c, getD_of hk]
    exact ⟨gp_ep (hL _ (List.getElem_mem hk)), rfl⟩
theorem ed_e3 {p : Int × Int} (hp : ep p) : ∀ t : Nat, ed p (e3 t) → ed p (1, -1) := by
  intro t
  induction t with
  | zero =>
    intro h
    have := ed_1 h
    have := hp.1
    omega
  | succ t ih =>
    intro h
    rcases ep_mul hp h with z | z
    · exact ih z
    · exact z
theorem rpb_iff {t : Nat} {L : List (Int × Int)} (hs : stL L) {i : Nat} (hi : i < t + L.length) : rpb t L i = true ↔ ed (mat t L i) (mpr t L i) := by
  unfold rpb mat mpr
  by_cases c : i < t
  · rw [if_pos c, if_pos c, if_pos (by omega), decide_eq_true_iff]
    cases i with
    | zero =>
      constructor
      · intro h; omega
      · intro h
        exact absurd (ed_1 h) (by decide)
    | succ i => exact ⟨fun _ => ed_mul' (1, -1) (e3 i), fun _ => by omega⟩
  · have hk : i - t < L.length := by omega
    obtain ⟨k, hk'⟩ : ∃ k, k = i - t := ⟨_, rfl⟩
    rw [← hk'] at hk
    rw [if_neg c, if_neg c, ← hk', getD_of hk, decide_eq_true_iff]
    have g := hs.2 _ (List.getElem_mem hk)
    have n3 : ¬ ed L[k] (e3 t) := by
      intro z
      have := en_ed_le (ed_e3 (gp_ep g) t z) (by decide)
      have := gp_4 g
      have e3 : en (1, -1) = 3 := rfl
      omega
    have key : ed L[k] (epr (L.take k)) ↔ (0 < k ∧ L[k] = L.getD (k - 1) (0, 0)) := by
      constructor
      · intro h
        have mem := gp_mem g (fun y hy => hs.2 y (List.mem_of_mem_take hy)) h
        obtain ⟨j, hj, ej⟩ := List.mem_iff_getElem.mp mem
        rw [List.length_take] at hj
        rw [List.getElem_take] at ej
        have k1 : k - 1 < L.length := by omega
        refine ⟨by omega, ?_⟩
        rw [getD_of k1]
        have s := hs.1
        unfold srt at s
        have p := List.pairwise_iff_getElem.mp s
        by_cases cj : j = k - 1
        · subst cj; exact ej.symm
        · have a1 := p j (k - 1) (by omega) k1 (by omega)
          have a2 := p (k - 1) k k1 hk (by omega)
          rw [ej] at a1
          exact elt_tri g.1 (hs.2 _ (List.getElem_mem k1)).1 a2 a1
      · rintro ⟨h1, h2⟩
        have k1 : k - 1 < L.length := by omega
        rw [getD_of k1] at h2
        have hE : epr (L.take k) = em (epr (L.take (k - 1))) L[k - 1] := by
          have q := epr_take k1
          rw [show k - 1 + 1 = k by omega] at q
          exact q
        rw [hE, h2]
        exact ed_mul' _ _
    by_cases ce : i ≤ t
    · have : k = 0 := by omega
      rw [if_pos ce, show i = t by omega]
      exact ⟨fun h => by omega, fun h => absurd h n3⟩
    · rw [if_neg ce]
      constructor
      · rintro ⟨h1, h2⟩
        exact ed_mull (key.mpr ⟨by omega, h2⟩) _
      · intro h
        rcases ep_mul (gp_ep g) h with z | z
        · exact absurd z n3
        · have := key.mp z
          exact ⟨by omega, this.2⟩
