/-! ===== reckoned over all classes: the order does not matter; the classes by a prime ===== -/
def bo {α : Type} (op : α → α → α) (e : α) (h : Nat → α) : Nat → α
  | 0 => e
  | n + 1 => op (bo op e h n) (h n)
section BO
variable {α : Type} {op : α → α → α} {e : α}
theorem bo_congr {h h' : Nat → α} : ∀ n : Nat, (∀ i, i < n → h i = h' i) → bo op e h n = bo op e h' n := by
  intro n
  induction n with
  | zero => intro _; rfl
  | succ n ih =>
    intro H
    show op (bo op e h n) (h n) = op (bo op e h' n) (h' n)
    rw [ih (fun i hi => H i (by omega)), H n (by omega)]
theorem bo_swap (as : ∀ a b c, op (op a b) c = op a (op b c)) (co : ∀ a b, op a b = op b a) {h h' : Nat → α} {i : Nat} : ∀ n : Nat, i < n → (∀ j, j ≠ i → h j = h' j) → op (bo op e h n) (h' i) = op (bo op e h' n) (h i) := by
  intro n
  induction n with
  | zero => intro hi; omega
  | succ n ih =>
    intro hi H
    show op (op (bo op e h n) (h n)) (h' i) = op (op (bo op e h' n) (h' n)) (h i)
    by_cases c : i = n
    · subst c
      rw [bo_congr (h := h) (h' := h') i (fun j hj => H j (by omega)), as, as, co (h i)]
    · rw [as, co (h n), ← as, ih (by omega) H, H n (fun z => c z.symm), as, as, co (h i)]
theorem bo_perm (as : ∀ a b c, op (op a b) c = op a (op b c)) (co : ∀ a b, op a b = op b a) (g : Nat → α) : ∀ (n : Nat) (F : Nat → Nat), (∀ i, i < n → F i < n) → (∀ i j, i < n → j < n → F i = F j → i = j) → bo op e (fun i => g (F i)) n = bo op e g n := by
  intro n
  induction n with
  | zero => intro F _ _; rfl
  | succ n ih =>
    intro F hF inj
    by_cases c : F n = n
    · show op (bo op e (fun i => g (F i)) n) (g (F n)) = op (bo op e g n) (g n)
      rw [c, ih F (fun i hi => by
        have h1 := hF i (by omega)
        have h2 : F i ≠ n := fun z => by
          have := inj i n (by omega) (by omega) (by rw [z, c])
          omega
        omega) (fun i j hi hj => inj i j (by omega) (by omega))]
    · have sur : ∃ i, i < n ∧ F i = n := by
        by_cases cs : ∃ i, i < n ∧ F i = n
        · exact cs
        · exfalso
          obtain ⟨i, j, ij, jn, e'⟩ := pigeon n F (fun i hi => by
            have h1 := hF i (by omega)
            have h2 : F i ≠ n := by
              intro z
              by_cases ci : i = n
              · rw [ci] at z; exact c z
              · exact cs ⟨i, by omega, z⟩
            omega)
          have := inj i j (by omega) (by omega) e'
          omega
      obtain ⟨i, hi, ei⟩ := sur
      have mn : F n < n := by have := hF n (by omega); omega
      have I := ih (fun j => if j = i then F n else F j) (fun j hj => by
        by_cases cj : j = i
        · show (if j = i then F n else F j) < n; rw [if_pos cj]; exact mn
        · show (if j = i then F n else F j) < n
          rw [if_neg cj]
          have h1 := hF j (by omega)
          have h2 : F j ≠ n := fun z => cj (inj j i (by omega) (by omega) (by rw [z, ei]))
          omega) (fun j k hj hk e' => by
        have e2 : (if j = i then F n else F j) = (if k = i then F n else F k) := e'
        by_cases cj : j = i
        · by_cases ck : k = i
          · rw [cj, ck]
          · rw [if_pos cj, if_neg ck] at e2
            have := inj n k (by omega) (by omega) e2
            omega
        · by_cases ck : k = i
          · rw [if_neg cj, if_pos ck] at e2
            have := inj j n (by omega) (by omega) e2
            omega
          · rw [if_neg cj, if_neg ck] at e2
            exact inj j k (by omega) (by omega) e2)
      have sw := bo_swap (op := op) (e := e) as co (h := fun j => g (F j)) (h' := fun j => g (if j = i then F n else F j)) (i := i) n hi (fun j hj => by show g (F j) = g (if j = i then F n else F j); rw [if_neg hj])
      simp only [if_true] at sw
      show op (bo op e (fun i => g (F i)) n) (g (F n)) = op (bo op e g n) (g n)
      rw [sw, I, ei]
end BO
/-- of one class -/
def cg (m x y : Int × Int) : Prop := ed m (esb x y)
theorem cg_refl (m x : Int × Int) : cg m x x := by
  have : esb x x = (0, 0) := e_ext (by simp only [esb]; omega) (by simp only [esb]; omega)
  unfold cg
  rw [this]; exact ed_zero m
theorem cg_symm {m x y : Int × Int} (h : cg m x y) : cg m y x := ed_swap h
theorem cg_trans {m x y z : Int × Int} (h1 : cg m x y) (h2 : cg m y z) : cg m x z := by
  have := ed_add h1 h2
  have e : ead (esb x y) (esb y z) = esb x z := e_ext (by simp only [esb, ead]; omega) (by simp only [esb, ead]; omega)
  rw [e] at this
  exact this
theorem cg_mul {m x y z w : Int × Int} (h1 : cg m x y) (h2 : cg m z w) : cg m (em x z) (em y w) := by
  refine cg_trans (y := em y z) ?_ ?_
  · unfold cg
    rw [em_esb]
    exact ed_mulr h1 z
  · unfold cg
    rw [esb_em_l]
    exact ed_mull h2 y
theorem cg_ed {m x y : Int × Int} (h : cg m x y) : ed m x ↔ ed m y := by
  constructor
  · intro hx
    exact ed_esb (cg_symm h) hx
  · intro hy
    exact ed_esb h hy
theorem cg_rs {m : Int × Int} {H W S : Int} (h : bx m H W S) (z : Int × Int) : cg m z (rs H W S z) := rs_ed h z
theorem cg_iff {m : Int × Int} {H W S : Int} (h : bx m H W S) {x y : Int × Int} : rs H W S x = rs H W S y ↔ cg m x y := rs_iff h
theorem cg_pw {m x y : Int × Int} (h : cg m x y) : ∀ k : Nat, cg m (epw x k) (epw y k) := by
  intro k
  induction k with
  | zero => exact cg_refl m _
  | succ k ih => exact cg_mul ih h
section FER
variable {m : Int × Int} {H W : Nat} {S : Int}
theorem bx_pos (h : bx m (H : Int) (W : Int) S) : 1 ≤ H ∧ H ≤ W ∧ 1 ≤ W ∧ ((W * H : Nat) : Int) = en m := by
  obtain ⟨h1, h2, h3, -⟩ := h
  refine ⟨by omega, by omega, by omega, ?_⟩
  rw [Int.natCast_mul, Int.mul_comm]; exact h3
theorem fermat (h : bx m (H : Int) (W : Int) S) (hp : ep m) {x : Int × Int} (hx : ¬ ed m x) : cg m (epw x (W * H - 1)) (1, 0) := by
  obtain ⟨b1, b2, b3, b4⟩ := bx_pos h
  have n2 : 2 ≤ W * H := by have := hp.1; omega
  have g0 : ∀ i, i + 1 < W * H → ¬ ed m (cl W (i + 1)) := by
    intro i hi z
    have hr := cl_isR (H := H) hi
    have := (rs_0 h).mpr z
    rw [rs_fix hr.1 hr.2.1 hr.2.2.1 hr.2.2.2] at this
    have e0 : cl W 0 = (0, 0) := by unfold cl; simp
    rw [← e0] at this
    have := cl_inj this
    omega
  have r0 : ∀ i, i + 1 < W * H → 1 ≤ plc W (rs H W S (em x (cl W (i + 1)))) := by
    intro i hi
    have hr := rs_isR h (em x (cl W (i + 1)))
    by_cases c : 1 ≤ plc W (rs H W S (em x (cl W (i + 1))))
    · exact c
    · exfalso
      have e0 : cl W 0 = (0, 0) := by unfold cl; simp
      have e := cl_plc hr
      rw [show plc W (rs H W S (em x (cl W (i + 1)))) = 0 by omega, e0] at e
      rcases ep_mul hp ((rs_0 h).mp e.symm) with z | z
      · exact hx z
      · exact g0 i hi z
  have P := bo_perm (op := em) (e := (1, 0)) em_assoc em_comm (fun i => cl W (i + 1)) (W * H - 1) (fun i => plc W (rs H W S (em x (cl W (i + 1)))) - 1) (fun i hi => by
    have l := plc_lt (rs_isR h (em x (cl W (i + 1))))
    have := r0 i (by omega)
    omega) (fun i j hi hj e => by
    have e' : plc W (rs H W S (em x (cl W (i + 1)))) - 1 = plc W (rs H W S (em x (cl W (j + 1)))) - 1 := e
    have a1 := r0 i (by omega)
    have a2 := r0 j (by omega)
    have e2 := plc_inj (rs_isR h _) (rs_isR h _) (show plc W (rs H W S (em x (cl W (i + 1)))) = plc W (rs H W S (em x (cl W (j + 1)))) by omega)
    have d : ed m (esb (em x (cl W (i + 1))) (em x (cl W (j + 1)))) := (rs_iff h).mp e2
    rw [esb_em_l] at d
    rcases ep_mul hp d with z | z
    · exact absurd z hx
    · have e3 := (rs_iff h).mpr z
      have hr1 := cl_isR (H := H) (W := W) (k := i + 1) (by omega)
      have hr2 := cl_isR (H := H) (W := W) (k := j + 1) (by omega)
      rw [rs_fix hr1.1 hr1.2.1 hr1.2.2.1 hr1.2.2.2, rs_fix hr2.1 hr2.2.1 hr2.2.2.1 hr2.2.2.2] at e3
      have := cl_inj e3
      omega)
  have Q : bo em (1, 0) (fun i => cl W (plc W (rs H W S (em x (cl W (i + 1)))) - 1 + 1)) (W * H - 1) = bo em (1, 0) (fun i => rs H W S (em x (cl W (i + 1)))) (W * H - 1) := bo_congr _ (fun i hi => by
    have := r0 i (by omega)
    show cl W (plc W (rs H W S (em x (cl W (i + 1)))) - 1 + 1) = rs H W S (em x (cl W (i + 1)))
    rw [Nat.sub_add_cancel this, cl_plc (rs_isR h _)])
  have P' : bo em (1, 0) (fun i => rs H W S (em x (cl W (i + 1)))) (W * H - 1) = bo em (1, 0) (fun i => cl W (i + 1)) (W * H - 1) := by rw [← Q]; exact P
  have C : ∀ k : Nat, cg m (em (epw x k) (bo em (1, 0) (fun i => cl W (i + 1)) k)) (bo em (1, 0) (fun i => rs H W S (em x (cl W (i + 1)))) k) := by
    intro k
    induction k with
    | zero => exact cg_refl m _
    | succ k ih =>
      show cg m (em (em (epw x k) x) (em (bo em (1, 0) (fun i => cl W (i + 1)) k) (cl W (k + 1)))) (em (bo em (1, 0) (fun i => rs H W S (em x (cl W (i + 1)))) k) (rs H W S (em x (cl W (k + 1)))))
      have e : em (em (epw x k) x) (em (bo em (1, 0) (fun i => cl W (i + 1)) k) (cl W (k + 1))) = em (em (epw x k) (bo em (1, 0) (fun i => cl W (i + 1)) k)) (em x (cl W (k + 1))) := by
        rw [em_assoc, em_assoc, ← em_assoc x, em_comm x, em_assoc]
      rw [e]
      exact cg_mul ih (cg_rs h _)
  have nP : ∀ k : Nat, k + 1 ≤ W * H → ¬ ed m (bo em (1, 0) (fun i => cl W (i + 1)) k) := by
    intro k
    induction k with
    | zero =>
      intro _ z
      have := ed_1 z
      have := hp.1
      omega
    | succ k ih =>
      intro hk z
      have z' : ed m (em (bo em (1, 0) (fun i => cl W (i + 1)) k) (cl W (k + 1))) := z
      rcases ep_mul hp z' with y | y
      · exact ih (by omega) y
      · exact g0 k (by omega) y
  have c1 := C (W * H - 1)
  rw [P'] at c1
  obtain ⟨B, hB⟩ : ∃ B, B = bo em (1, 0) (fun i => cl W (i + 1)) (W * H - 1) := ⟨_, rfl⟩
  have c2 := nP (W * H - 1) (by omega)
  rw [← hB] at c1 c2
  have c3 : ed m (em (esb (epw x (W * H - 1)) (1, 0)) B) := by
    rw [← em_esb, em_one]
    exact c1
  rcases ep_mul hp c3 with z | z
  · exact z
  · exact absurd z c2
/-- a third root of one is 1, w or w w -/
theorem root3 (hp : ep m) {y : Int × Int} (h : cg m (epw y 3) (1, 0)) : cg m y (1, 0) ∨ cg m y (0, 1) ∨ cg m y (-1, -1) := by
  have e : esb (epw y 3) (1, 0) = em (esb y (1, 0)) (em (esb y (0, 1)) (esb y (-1, -1))) := by
    obtain ⟨a, b⟩ := y
    refine e_ext ?_ ?_ <;> · simp only [epw, em, esb]; grind
  unfold cg at h
  rw [e] at h
  rcases ep_mul hp h with z | z
  · exact Or.inl z
  · rcases ep_mul hp z with w | w
    · exact Or.inr (Or.inl w)
    · exact Or.inr (Or.inr w)
end FER
