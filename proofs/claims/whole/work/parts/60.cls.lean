/-! ===== classes: those prime to a number, and cubes among them ===== -/
theorem mpr_ed {t : Nat} {L : List (Int × Int)} : ∀ (j i : Nat), i + j = t + L.length → ed (mpr t L i) (mpr t L (t + L.length)) := by
  intro j
  induction j with
  | zero => intro i hi; rw [show i = t + L.length by omega]; exact ed_refl _
  | succ j ih =>
    intro i hi
    have := ih (i + 1) (by omega)
    rw [mpr_succ (by omega)] at this
    exact ed_trans (ed_mul _ _) this
theorem mpr_last (t : Nat) (L : List (Int × Int)) : mpr t L (t + L.length) = em (e3 t) (epr L) := by
  unfold mpr
  by_cases c : t + L.length ≤ t
  · have : L = [] := List.length_eq_zero_iff.mp (by omega)
    subst this
    rw [if_pos c]
    show e3 (t + 0) = em (e3 t) (1, 0)
    rw [em_one']; rfl
  · rw [if_neg c, show t + L.length - t = L.length by omega, List.take_length]
theorem phi_pre {N : Nat} (hN : 1048576 ≤ N) {t : Nat} {L : List (Int × Int)} (hs : stL L) (hb : eb (mpr t L (t + L.length))) (h0 : mpr t L (t + L.length) ≠ (0, 0)) : ∀ i : Nat, i ≤ t + L.length → ∀ (H W : Nat) (S : Int), bx (mpr t L i) (H : Int) (W : Int) S → ((phi H W (mpr t L i) : Nat) : Int) = foldF stP (rpb t L) (nmv t L) i 0 1 := by
  intro i
  induction i with
  | zero =>
    intro _ H W S hB
    have e1 : mpr t L 0 = (1, 0) := by unfold mpr; rw [if_pos (by omega)]; rfl
    rw [e1] at hB ⊢
    obtain ⟨b1, b2, b3, b4⟩ := bx_pos hB
    have : W * H = 1 := by rw [en_one] at b4; omega
    unfold phi
    rw [this]
    have c : copb W (1, 0) 0 = true := copb_iff.mpr ⟨(0, 0), (1, 0), by rw [em_zero', em_one]; exact e_ext (by simp [ead]) (by simp [ead])⟩
    show ((0 + (if copb W (1, 0) 0 then 1 else 0) : Nat) : Int) = 1
    rw [if_pos c]; rfl
  | succ i ih =>
    intro hi H2 W2 S2 hB2
    have hi' : i < t + L.length := by omega
    have d1 := mpr_ed (t := t) (L := L) (t + L.length - i) i (by omega)
    have d2 := mpr_ed (t := t) (L := L) (t + L.length - (i + 1)) (i + 1) (by omega)
    rw [mpr_succ hi'] at hB2 d2 ⊢
    have eb1 : eb (mpr t L i) := Int.le_trans (en_ed_le d1 h0) hb
    have eb2 : eb (mat t L i) := Int.le_trans (en_ed_le (ed_trans (ed_mul' _ _) d2) h0) hb
    obtain ⟨pm, nm⟩ := mat_ep hs.2 hi'
    have m0 : mpr t L i ≠ (0, 0) := fun z => h0 (by obtain ⟨r, hr⟩ := d1; rw [hr, z, em_zero'])
    obtain ⟨H, W, S, hB, -, -⟩ := s_box hN (a := (mpr t L i).1) (b := (mpr t L i).2) eb1 m0
    have hh := bx_bd hB eb1
    obtain ⟨H, rfl⟩ := Int.eq_ofNat_of_zero_le (show 0 ≤ H by omega)
    obtain ⟨W, rfl⟩ := Int.eq_ofNat_of_zero_le (show 0 ≤ W by omega)
    obtain ⟨H1, W1, S1, hB1, -, -⟩ := s_box hN (a := (mat t L i).1) (b := (mat t L i).2) eb2 (ep_ne pm)
    have hh1 := bx_bd hB1 eb2
    obtain ⟨H1, rfl⟩ := Int.eq_ofNat_of_zero_le (show 0 ≤ H1 by omega)
    obtain ⟨W1, rfl⟩ := Int.eq_ofNat_of_zero_le (show 0 ≤ W1 by omega)
    obtain ⟨-, -, -, n1⟩ := bx_pos (m := mat t L i) hB1
    have I := ih (by omega) H W S hB
    obtain ⟨s1, s2⟩ := phi_step m0 pm hB hB1 hB2
    have fs : foldF stP (rpb t L) (nmv t L) (i + 1) 0 1 = stP (foldF stP (rpb t L) (nmv t L) i 0 1) (rpb t L i) (nmv t L i) := by
      rw [foldF_app stP (rpb t L) (nmv t L) i 1 0 1, Nat.zero_add]; rfl
    rw [fs, ← I, ← nm, ← n1]
    have p1 : 1 ≤ W1 * H1 := by have := pm.1; omega
    by_cases c : ed (mat t L i) (mpr t L i)
    · have r := (rpb_iff hs hi').mpr c
      rw [s1 c, r]
      unfold stP
      rw [if_pos rfl, Int.natCast_mul, Int.mul_comm]
    · have r : rpb t L i = false := by
        cases e : rpb t L i
        · rfl
        · exact absurd ((rpb_iff hs hi').mp e) c
      rw [s2 c, r]
      unfold stP
      rw [if_neg (by decide), Int.natCast_mul, Int.mul_comm, Int.natCast_sub p1]
      rfl
theorem phi_fac {N : Nat} (hN : 1048576 ≤ N) {L : List (Int × Int)} {t u : Nat} {n : Int × Int} (hs : stL L) (e : eit u (em (epr L) (e3 t)) = n) (hb : eb n) (h0 : n ≠ (0, 0)) {H W : Nat} {S : Int} (hB : bx n (H : Int) (W : Int) S) : ((phi H W n : Nat) : Int) = foldF stP (rpb t L) (nmv t L) (t + L.length) 0 1 := by
  have d := ed_eit u (em (epr L) (e3 t))
  rw [e, em_comm, ← mpr_last t L] at d
  have en' : en (mpr t L (t + L.length)) = en n := by rw [mpr_last, em_comm, ← e, en_eit]
  have ebM : eb (mpr t L (t + L.length)) := by unfold eb; rw [en']; exact hb
  have M0 : mpr t L (t + L.length) ≠ (0, 0) := fun z => by
    have := en_pos h0
    rw [z] at en'
    have z0 : en (0, 0) = 0 := rfl
    omega
  have hB' := bx_alike hB d.1 d.2 en'.symm
  rw [← phi_pre hN hs ebM M0 (t + L.length) (Nat.le_refl _) H W S hB']
  rw [phi_alike H W d.1 d.2]
section CUB
variable {m : Int × Int} {H W : Nat} {S : Int}
theorem cn_cb (f : Nat → Nat) (i : Nat) : ∀ n : Nat, cn f n i = cb (fun j => decide (f j = i)) n := by
  intro n
  induction n with
  | zero => rfl
  | succ n ih =>
    show cn f n i + (if f n = i then 1 else 0) = cb (fun j => decide (f j = i)) n + (if decide (f n = i) = true then 1 else 0)
    rw [ih]
    by_cases c : f n = i
    · rw [if_pos c, if_pos (decide_eq_true c)]
    · rw [if_neg c, if_neg (by simp only [decide_eq_true_eq]; exact c)]
theorem cn_ex (f : Nat → Nat) (i : Nat) : ∀ n : Nat, 0 < cn f n i → ∃ j, j < n ∧ f j = i := by
  intro n
  induction n with
  | zero => intro h; exact absurd h (Nat.lt_irrefl 0)
  | succ n ih =>
    intro h
    have h' : 0 < cn f n i + (if f n = i then 1 else 0) := h
    by_cases c : f n = i
    · exact ⟨n, by omega, c⟩
    · rw [if_neg c] at h'
      obtain ⟨j, j1, j2⟩ := ih (by omega)
      exact ⟨j, by omega, j2⟩
/-- counted twice -/
theorem dbl {f : Nat → Nat} {n : Nat} (P : Nat → Bool) : ∀ k : Nat, (∀ j, j < k → f j < n) → cb (fun j => P (f j)) k = bo (· + ·) 0 (fun i => if P i then cn f k i else 0) n := by
  intro k
  induction k with
  | zero =>
    intro _
    have : ∀ n : Nat, bo (· + ·) 0 (fun i => if P i then cn f 0 i else 0) n = 0 := by
      intro n
      induction n with
      | zero => rfl
      | succ n ih =>
        show bo (· + ·) 0 (fun i => if P i then cn f 0 i else 0) n + (if P n then 0 else 0) = 0
        rw [ih]; split <;> rfl
    exact (this n).symm
  | succ k ih =>
    intro h
    show cb (fun j => P (f j)) k + (if P (f k) then 1 else 0) = _
    rw [ih (fun j hj => h j (by omega))]
    have fk := h k (by omega)
    have add : ∀ n : Nat, f k < n → bo (· + ·) 0 (fun i => if P i then cn f k i else 0) n + (if P (f k) then 1 else 0) = bo (· + ·) 0 (fun i => if P i then cn f (k + 1) i else 0) n := by
      intro n
      induction n with
      | zero => intro z; omega
      | succ n ihn =>
        intro z
        show bo (· + ·) 0 (fun i => if P i then cn f k i else 0) n + (if P n then cn f k n else 0) + (if P (f k) then 1 else 0) = bo (· + ·) 0 (fun i => if P i then cn f (k + 1) i else 0) n + (if P n then cn f k n + (if f k = n then 1 else 0) else 0)
        by_cases c : f k = n
        · have low : bo (· + ·) 0 (fun i => if P i then cn f k i else 0) n = bo (· + ·) 0 (fun i => if P i then cn f (k + 1) i else 0) n := bo_congr n (fun i hi => by
            show (if P i then cn f k i else 0) = (if P i then cn f k i + (if f k = i then 1 else 0) else 0)
            rw [if_neg (show ¬ f k = i by omega), Nat.add_zero])
          rw [low, if_pos c, c]
          by_cases cp : P n = true
          · rw [if_pos cp, if_pos cp, if_pos cp]; omega
          · rw [if_neg cp, if_neg cp, if_neg cp]
        · have := ihn (by omega)
          rw [if_neg c, Nat.add_right_comm, this]
          rfl
    exact add n fk
theorem bo_const {P : Nat → Bool} {g : Nat → Nat} {R : Nat} : ∀ n : Nat, (∀ i, i < n → P i = true → g i = 0 ∨ g i = R) → 0 < R → bo (· + ·) 0 (fun i => if P i then g i else 0) n = R * cb (fun i => P i && decide (0 < g i)) n := by
  intro n
  induction n with
  | zero => intro _ _; rfl
  | succ n ih =>
    intro h hR
    show bo (· + ·) 0 (fun i => if P i then g i else 0) n + (if P n then g n else 0) = R * (cb (fun i => P i && decide (0 < g i)) n + (if (P n && decide (0 < g n)) = true then 1 else 0))
    rw [ih (fun i hi => h i (by omega)) hR, Nat.mul_add]
    congr 1
    by_cases cp : P n = true
    · rcases h n (by omega) cp with z | z
      · rw [if_pos cp, z, if_neg (by simp)]; omega
      · rw [if_pos cp, z, if_pos (by simp [cp, hR])]; omega
    · rw [if_neg cp, if_neg (by simp [cp])]; omega
theorem cu3_mul (x y : Int × Int) : cu3 (em x y) = em (cu3 x) (cu3 y) := by
  unfold cu3
  refine e_ext ?_ ?_ <;> · simp only [em]; grind
theorem cop_cu3 {x m : Int × Int} : cop (cu3 x) m ↔ cop x m := by
  constructor
  · intro h
    have := cop_symm h
    unfold cu3 at this
    exact cop_symm (cop_prod.mp this).2
  · intro h
    exact cop_mul (cop_mul h h) h
theorem cpl_cg (h : bx m (H : Int) (W : Int) S) {k j : Nat} (hk : k < W * H) : cpl H W S j = k ↔ cg m (cu3 (cl W j)) (cl W k) := by
  have hr := cl_isR (H := H) hk
  constructor
  · intro e
    have := cg_rs h (cu3 (cl W j))
    have e2 := cl_plc (rs_isR h (cu3 (cl W j)))
    unfold cpl at e
    rw [e] at e2
    rw [← e2] at this
    exact this
  · intro c
    have e := (cg_iff h).mpr c
    rw [rs_fix hr.1 hr.2.1 hr.2.2.1 hr.2.2.2] at e
    unfold cpl
    rw [e, plc_cl (H := H) hk]
/-- every cube prime to m has as many roots as 1 -/
theorem fib (h : bx m (H : Int) (W : Int) S) {k k1 : Nat} (hk : k < W * H) (hk1 : k1 < W * H) (e1 : cg m (cl W k1) (1, 0)) (hc : cop (cl W k) m) (hp : 0 < cn (cpl H W S) (W * H) k) : cn (cpl H W S) (W * H) k = cn (cpl H W S) (W * H) k1 := by
  obtain ⟨j0, j1, j2⟩ := cn_ex _ _ _ hp
  have c0 := (cpl_cg h hk).mp j2
  have ca : cop (cl W j0) m := cop_cu3.mp (cop_cg (cg_symm c0) hc)
  rw [cn_cb, cn_cb]
  have P := cb_perm (P := fun j => decide (cpl H W S j = k)) (n := W * H) (F := fun j => plc W (rs H W S (em (cl W j0) (cl W j)))) (fun j hj => plc_lt (rs_isR h _)) (fun i j hi hj e => by
    have e2 := (cg_iff h).mp (plc_inj (rs_isR h _) (rs_isR h _) e)
    have e3 : ed m (em (cl W j0) (esb (cl W i) (cl W j))) := by rw [← esb_em_l]; exact e2
    have e4 : cg m (cl W i) (cl W j) := cop_cancel ca e3
    have s1 := cl_isR (H := H) (W := W) (k := i) (by omega)
    have s2 := cl_isR (H := H) (W := W) (k := j) (by omega)
    have e5 := (cg_iff h).mpr e4
    rw [rs_fix s1.1 s1.2.1 s1.2.2.1 s1.2.2.2, rs_fix s2.1 s2.2.1 s2.2.2.1 s2.2.2.2] at e5
    exact cl_inj e5)
  rw [← P]
  refine cb_congr _ (fun j hj => ?_)
  show decide (cpl H W S (plc W (rs H W S (em (cl W j0) (cl W j)))) = k) = decide (cpl H W S j = k1)
  refine bool_ext ?_
  rw [decide_eq_true_iff, decide_eq_true_iff, cpl_cg h hk, cpl_cg h hk1, cl_plc (rs_isR h _)]
  have g := cg_rs h (em (cl W j0) (cl W j))
  have g3 : cg m (cu3 (em (cl W j0) (cl W j))) (cu3 (rs H W S (em (cl W j0) (cl W j)))) := cg_mul (cg_mul g g) g
  rw [cu3_mul] at g3
  constructor
  · intro z
    have z1 : cg m (em (cu3 (cl W j0)) (cu3 (cl W j))) (em (cu3 (cl W j0)) (1, 0)) := by
      rw [em_one']
      exact cg_trans g3 (cg_trans z (cg_symm c0))
    have z2 : ed m (em (cu3 (cl W j0)) (esb (cu3 (cl W j)) (1, 0))) := by rw [← esb_em_l]; exact z1
    exact cg_trans (cop_cancel (cop_cu3.mpr ca) z2) (cg_symm e1)
  · intro z
    have z1 : cg m (em (cu3 (cl W j0)) (cu3 (cl W j))) (em (cu3 (cl W j0)) (1, 0)) := cg_mul (cg_refl m _) (cg_trans z e1)
    rw [em_one'] at z1
    exact cg_trans (cg_symm g3) (cg_trans z1 c0)
theorem cubes_phi (h : bx m (H : Int) (W : Int) S) {k1 : Nat} (hk1 : k1 < W * H) (e1 : cg m (cl W k1) (1, 0)) : 0 < cn (cpl H W S) (W * H) k1 ∧ phi H W m = cn (cpl H W S) (W * H) k1 * cb (fun k => copb W m k && decide (0 < cn (cpl H W S) (W * H) k)) (W * H) := by
  have R0 : 0 < cn (cpl H W S) (W * H) k1 := by
    have c : cpl H W S k1 = k1 := by
      rw [cpl_cg h hk1]
      have : cg m (cu3 (cl W k1)) (1, 0) := by
        have := cg_mul (cg_mul e1 e1) e1
        rw [em_one, em_one] at this
        exact this
      exact cg_trans this (cg_symm e1)
    have gen : ∀ n : Nat, k1 < n → 0 < cn (cpl H W S) n k1 := by
      intro n
      induction n with
      | zero => intro z; omega
      | succ n ih =>
        intro z
        show 0 < cn (cpl H W S) n k1 + (if cpl H W S n = k1 then 1 else 0)
        by_cases ce : n = k1
        · rw [ce, if_pos c]; omega
        · have := ih (by omega); omega
    exact gen _ hk1
  refine ⟨R0, ?_⟩
  have a1 : phi H W m = cb (fun j => copb W m (cpl H W S j)) (W * H) := by
    unfold phi
    refine cb_congr _ (fun j hj => bool_ext ?_)
    rw [copb_iff, copb_iff]
    have c := (cpl_cg h (cpl_lt h j)).mp rfl
    constructor
    · intro z; exact cop_cg c (cop_cu3.mpr z)
    · intro z; exact cop_cu3.mp (cop_cg (cg_symm c) z)
  rw [a1, dbl (copb W m) (W * H) (fun j _ => cpl_lt h j)]
  refine bo_const (W * H) (fun i hi ci => ?_) R0
  by_cases c0 : cn (cpl H W S) (W * H) i = 0
  · exact Or.inl c0
  · right
    exact fib h hi hk1 e1 (copb_iff.mp ci) (by omega)
end CUB
