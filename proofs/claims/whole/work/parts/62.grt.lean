/-! ===== greatest: the orders ===== -/
def isOrd (m x : Int × Int) (e : Nat) : Prop := 1 ≤ e ∧ cg m (epw x e) (1, 0) ∧ ∀ j, 1 ≤ j → j < e → ¬ cg m (epw x j) (1, 0)
theorem epw_one : ∀ k : Nat, epw (1, 0) k = (1, 0) := by
  intro k
  induction k with
  | zero => rfl
  | succ k ih => show em (epw (1, 0) k) (1, 0) = (1, 0); rw [ih]; rfl
theorem cg_pw1 {m x : Int × Int} (h : cg m x (1, 0)) (k : Nat) : cg m (epw x k) (1, 0) := by
  have := cg_pw h k
  rw [epw_one] at this
  exact this
theorem ord_dvd {m x : Int × Int} {o n : Nat} (ho : isOrd m x o) (hn : cg m (epw x n) (1, 0)) : o ∣ n := by
  obtain ⟨o1, o2, o3⟩ := ho
  have e : epw x n = em (epw x (o * (n / o))) (epw x (n % o)) := by rw [← epw_add, Nat.div_add_mod]
  have c1 : cg m (epw x (o * (n / o))) (1, 0) := by rw [epw_mul]; exact cg_pw1 o2 _
  have c2 := cg_mul c1 (cg_refl m (epw x (n % o)))
  rw [← e, em_one] at c2
  have c3 := cg_trans (cg_symm c2) hn
  have lt : n % o < o := Nat.mod_lt _ (by omega)
  by_cases c : n % o = 0
  · exact Nat.dvd_of_mod_eq_zero c
  · exact absurd c3 (o3 _ (by omega) lt)
theorem ord_pow {m x : Int × Int} {o k g : Nat} (ho : isOrd m x o) (hk : g ∣ k) (hg : g ∣ o) {u v : Int} (hu : (g : Int) = u * k + v * o) : isOrd m (epw x k) (o / g) := by
  have o1 := ho.1
  have g0 : 0 < g := Nat.pos_of_dvd_of_pos hg o1
  obtain ⟨o', rfl⟩ := hg
  obtain ⟨k', rfl⟩ := hk
  rw [Nat.mul_div_cancel_left _ g0]
  refine ⟨?_, ?_, ?_⟩
  · rcases Nat.eq_zero_or_pos o' with z | z
    · subst z; omega
    · exact z
  · rw [← epw_mul, show g * k' * o' = g * o' * k' by rw [Nat.mul_assoc, Nat.mul_comm k' o', ← Nat.mul_assoc], epw_mul]
    exact cg_pw1 ho.2.1 _
  · intro j j1 j2 z
    rw [← epw_mul] at z
    have d := ord_dvd ho z
    have d1 : ((g * o' : Nat) : Int) ∣ ((g * k' * j : Nat) : Int) := Int.natCast_dvd_natCast.mpr d
    have d2 : ((g * o' : Nat) : Int) ∣ ((g * j : Nat) : Int) := by
      have e : ((g * j : Nat) : Int) = u * ((g * k' * j : Nat) : Int) + ((g * o' : Nat) : Int) * (v * j) := by
        rw [Int.natCast_mul g j, hu, Int.natCast_mul (g * k') j, Int.add_mul, Int.mul_assoc, Int.mul_comm v, Int.mul_assoc]
      rw [e]
      exact Int.dvd_add (Int.dvd_trans d1 (Int.dvd_mul_left _ _)) (Int.dvd_mul_right _ _)
    have d3 := Nat.le_of_dvd (Nat.mul_pos g0 j1) (Int.natCast_dvd_natCast.mp d2)
    have := Nat.le_of_mul_le_mul_left d3 g0
    omega
theorem ord_cg {m x y : Int × Int} {e : Nat} (h : cg m x y) (ho : isOrd m x e) : isOrd m y e :=
  ⟨ho.1, cg_trans (cg_symm (cg_pw h e)) ho.2.1, fun j j1 j2 z => ho.2.2 j j1 j2 (cg_trans (cg_pw h j) z)⟩
section GRT
variable {m : Int × Int} {H W : Nat} {S : Int}
/-- the marks hold orders -/
def oinv (m : Int × Int) (H W : Nat) (A : Nat → Int32) : Prop := ∀ i, i < W * H → A i = 0 ∨ ∃ e, isOrd m (cl W i) e ∧ e ≤ 2000 ∧ cop (cl W i) m ∧ A i = nI e
def odone (m : Int × Int) (W : Nat) (A : Nat → Int32) (n : Nat) : Prop := ∀ i, i < n → cop (cl W i) m → A i ≠ 0
theorem mpw_loop {N : Nat} (hN : 1048576 ≤ N) (h : bx m (H : Int) (W : Int) S) (hb : en m ≤ 2000) {x : Int × Int} (hx : isR (H : Int) (W : Int) x) (hc : cop x m) {o : Nat} (ho : isOrd m x o) (ho2 : o ≤ 2000) : ∀ (n k : Nat), 1 ≤ k → k + n = o + 1 → ∀ (f : Nat) (A : Nat → Int32), n < f → oinv m H W A → ∃ (oa ob : Int64) (A' : Nat → Int32), f_X10_markPowers_10 N f (nI o) (nI k) (lI H) (lI W) (lI S) (lI (rs H W S (epw x k)).1) (lI (rs H W S (epw x k)).2) A (lI x.1) (lI x.2) = some (oa, ob, A') ∧ oinv m H W A' ∧ (∀ i, A i ≠ 0 → A' i ≠ 0) ∧ (1 ≤ n → A' (plc W (rs H W S (epw x k))) ≠ 0) := by
  obtain ⟨n1, n2, n3, n4⟩ := bx_nat h hb
  have hb' : eb m := Int.le_trans hb (by decide)
  intro n
  induction n with
  | zero =>
    intro k hk hkn f A hf hA
    obtain ⟨f, rfl⟩ : ∃ f', f = f' + 1 := ⟨f - 1, by omega⟩
    refine ⟨_, _, A, by rw [f_X10_markPowers_10, if_pos (nI_lt (by omega) (by omega))], hA, fun i hi => hi, fun z => by omega⟩
  | succ n ih =>
    intro k hk hkn f A hf hA
    obtain ⟨f, rfl⟩ : ∃ f', f = f' + 1 := ⟨f - 1, by omega⟩
    have g2 : ¬ (2000 : Int32) < nI k := nI_nlt (b := k) (a := 2000) (by omega) (by decide)
    have lk : (nI k).toInt64 = lI (k : Int) := by rw [iI_nI, iI_l ⟨by omega, by omega⟩]
    have lo : (nI o).toInt64 = lI (o : Int) := by rw [iI_nI, iI_l ⟨by omega, by omega⟩]
    obtain ⟨g, g0, g1, gk, go, ⟨u, v, guv⟩, ge⟩ := s_divisor hN (a := (k : Int)) (b := (o : Int)) ⟨by omega, by omega⟩ ⟨by omega, by omega⟩
    obtain ⟨G, rfl⟩ := Int.eq_ofNat_of_zero_le g0
    have gk' : G ∣ k := Int.natCast_dvd_natCast.mp gk
    have go' : G ∣ o := Int.natCast_dvd_natCast.mp go
    have G0 : 0 < G := Nat.pos_of_dvd_of_pos gk' hk
    have hr := rs_isR h (epw x k)
    have pl := plc_lt hr
    have hop : isOrd m (epw x k) (o / G) := ord_pow ho gk' go' guv
    have ol : o / G ≤ 2000 := Nat.le_trans (Nat.div_le_self _ _) ho2
    have dv : (lI (o : Int) / lI (G : Int)).toInt32 = nI (o / G) := by
      rw [lI_div ⟨by omega, by omega⟩ ⟨by omega, by omega⟩, lI_i, iI_nI]; rfl
    have vn : ¬ nI (o / G) = 0 := nI_ne0 hop.1 (by omega)
    have sm := s_red_mul h hb' hr hx
    rw [s_multiply, Option.bind_some] at sm
    have e : rs H W S (em (rs H W S (epw x k)) x) = rs H W S (epw x (k + 1)) := by rw [rs_mul h]; rfl
    have ngl : ¬ lI (G : Int) ≤ 0 := by rw [l0, lI_le ⟨by omega, by omega⟩ ⟨by decide, by decide⟩]; omega
    have ng0 : ¬ lI (G : Int) = 0 := by rw [lI_0 ⟨by omega, by omega⟩]; omega
    have hA' : oinv m H W (upd A (plc W (rs H W S (epw x k))) (nI (o / G))) := by
      intro i hi
      unfold upd
      by_cases c : i = plc W (rs H W S (epw x k))
      · right
        rw [if_pos c, c, cl_plc hr]
        exact ⟨o / G, ord_cg (cg_rs h _) hop, ol, cop_cg (cg_rs h _) (cop_pw hc k), rfl⟩
      · rw [if_neg c]; exact hA i hi
    obtain ⟨oa, ob, A', i1, i2, i3, -⟩ := ih (k + 1) (by omega) (by omega) f _ (by omega) hA'
    have p0 : A' (plc W (rs H W S (epw x k))) ≠ 0 := i3 _ (by unfold upd; rw [if_pos rfl]; exact vn)
    rw [f_X10_markPowers_10, if_neg (nI_nlt (by omega) (by omega)), if_neg g2, lk, lo, ge, Option.bind_some, if_neg ngl, s_plcC hr, Option.bind_some, if_neg ng0, dv, s_mark (by omega), Option.bind_some]
    unfold f_X10_markPowers_59
    rw [s_multiply, Option.bind_some, sm, Option.bind_some, e, nI_1]
    refine ⟨oa, ob, A', i1, i2, fun i hi => ?_, fun _ => p0⟩
    by_cases c : i = plc W (rs H W S (epw x k))
    · rw [c]; exact p0
    · exact i3 i (by unfold upd; rw [if_neg c]; exact hi)
theorem mo_row {N K : Nat} (hN : 1048576 ≤ N) (h : bx m (H : Int) (W : Int) S) (hb : en m ≤ 2000) {y : Nat} (hy : y < H) : ∀ (mx x : Nat), x + mx = W → ∀ (f : Nat) (ec : Int32) (e1 e2 e3 e4 e5 e6 e7 e8 e9 e10 e11 e12 e13 e14 : Int64) (QA QB : Nat → Int64) (oa ob ua ub sa sb : Int64) (A : Nat → Int32), mx < f → oinv m H W A → odone m W A (y * W + x) → ∃ (ec' : Int32) (e1' e2' e3' e4' e5' e6' e7' e8' e9' e10' e11' e12' e13' e14' : Int64) (QA' QB' : Nat → Int64) (oa' ob' ua' ub' sa' sb' : Int64) (A' : Nat → Int32), f_X10_markOrders_22 N (f_X10_markOrders_7 N K) f (lI y) (lI x) ec e1 e2 e3 e4 e5 e6 e7 e8 e9 e10 e11 e12 e13 e14 QA QB (lI H) (lI W) (lI S) oa ob ua ub sa sb A (lI m.1) (lI m.2) = f_X10_markOrders_7 N K (lI ((y + 1 : Nat) : Int)) ec' e1' e2' e3' e4' e5' e6' e7' e8' e9' e10' e11' e12' e13' e14' QA' QB' (lI H) (lI W) (lI S) oa' ob' ua' ub' sa' sb' A' (lI m.1) (lI m.2) ∧ oinv m H W A' ∧ odone m W A' ((y + 1) * W) := by
  obtain ⟨n1, n2, n3, n4⟩ := bx_nat h hb
  have hb' : eb m := Int.le_trans hb (by decide)
  have hWH : W * 1 ≤ W * H := Nat.mul_le_mul_left W n1
  intro mx
  induction mx with
  | zero =>
    intro x hx f ec e1 e2 e3 e4 e5 e6 e7 e8 e9 e10 e11 e12 e13 e14 QA QB oa ob ua ub sa sb A hf hA hd
    obtain ⟨f, rfl⟩ : ∃ f', f = f' + 1 := ⟨f - 1, by omega⟩
    obtain rfl : x = W := by omega
    have ey : lI (y : Int) + 1 = lI ((y + 1 : Nat) : Int) := by rw [l1, lI_add]; rfl
    rw [f_X10_markOrders_22, if_pos (by rw [lI_le ⟨by omega, by omega⟩ ⟨by omega, by omega⟩]; exact Int.le_refl _), ey]
    rw [show y * x + x = (y + 1) * x by rw [Nat.succ_mul]] at hd
    exact ⟨_, _, _, _, _, _, _, _, _, _, _, _, _, _, _, _, _, _, _, _, _, _, _, A, rfl, hA, hd⟩
  | succ mx ih =>
    intro x hx f ec e1 e2 e3 e4 e5 e6 e7 e8 e9 e10 e11 e12 e13 e14 QA QB oa ob ua ub sa sb A hf hA hd
    obtain ⟨f, rfl⟩ : ∃ f', f = f' + 1 := ⟨f - 1, by omega⟩
    have hxW : x < W := by omega
    have et : lI (x : Int) + 1 = lI ((x + 1 : Nat) : Int) := by rw [l1, lI_add]; rfl
    have hi : y * W + x < W * H := by
      have := Nat.mul_le_mul_right W (show y + 1 ≤ H by omega)
      rw [Nat.succ_mul, Nat.mul_comm H W] at this
      omega
    have ec' : cl W (y * W + x) = ((x : Int), (y : Int)) := cl_eq hxW
    have hr : isR (H : Int) (W : Int) ((x : Int), (y : Int)) := ec' ▸ cl_isR hi
    have pc : plc W ((x : Int), (y : Int)) = y * W + x := by rw [← ec', plc_cl (H := H) hi]
    have sp := s_plcC hr
    rw [pc] at sp
    have xe : eb ((x : Int), (y : Int)) := ec' ▸ cl_eb (H := H) (by omega) n2 hi
    have sp' : f_X4_place (lI W) (lI (x : Int)) (lI (y : Int)) = some (nI (y * W + x)) := sp
    have up : ∀ A' : Nat → Int32, (∀ i, A i ≠ 0 → A' i ≠ 0) → (cop ((x : Int), (y : Int)) m → A' (y * W + x) ≠ 0) → odone m W A' (y * W + (x + 1)) := by
      intro A' q1 q2 i hi1 hi2
      by_cases c : i = y * W + x
      · rw [c] at hi2 ⊢; rw [ec'] at hi2; exact q2 hi2
      · exact q1 i (hd i (by omega) hi2)
    rw [f_X10_markOrders_22, if_neg (by rw [lI_le ⟨by omega, by omega⟩ ⟨by omega, by omega⟩]; omega)]
    unfold f_X5_set
    rw [Option.bind_some]
    simp only []
    rw [sp', Option.bind_some, s_markAt (by omega), Option.bind_some, et]
    by_cases c0 : A (y * W + x) = 0
    · rw [if_pos c0]
      have sc := s_cop hN (x := ((x : Int), (y : Int))) (m := m) xe hb'
      by_cases cc : cop ((x : Int), (y : Int)) m
      · obtain ⟨z, ez⟩ := (sc.1 cc).1 e13 e14 QA QB
        have ez' : f_X1_arePrimeToEachOther N e13 e14 QA QB (lI (x : Int)) (lI (y : Int)) (lI m.1) (lI m.2) = some (1, z) := ez
        obtain ⟨k0, o1, o2, o3, o4⟩ := ord_ex h cc
        have ho : isOrd m ((x : Int), (y : Int)) k0 := ⟨o1, (cg_iff h).mp o3, fun j j1 j2 q => o4 j j1 j2 ((cg_iff h).mpr q)⟩
        have so := (s_orderOf hN h hb (x := ((x : Int), (y : Int))) xe o1 (by omega) o3 o4).1
        have fx : rs H W S ((x : Int), (y : Int)) = ((x : Int), (y : Int)) := rs_fix hr.1 hr.2.1 hr.2.2.1 hr.2.2.2
        rw [fx] at so
        obtain ⟨pa, pb, A', p1, p2, p3, p4⟩ := mpw_loop hN h hb hr cc ho (by omega) k0 1 (Nat.le_refl _) (by omega) N A (by omega) hA
        rw [epw_1, fx] at p1 p4
        have pm : f_X10_markPowers N (nI k0) (lI H) (lI W) (lI S) A (lI (x : Int)) (lI (y : Int)) = some (pa, pb, A') := p1
        have so' : f_X10_orderOf N (lI H) (lI W) (lI S) (lI (x : Int)) (lI (y : Int)) = some (nI k0, lI (rs H W S (1, 0)).1, lI (rs H W S (1, 0)).2, lI (rs H W S (1, 0)).1, lI (rs H W S (1, 0)).2, lI (x : Int), lI (y : Int)) := so
        rw [ez', Option.bind_some]
        simp only []
        rw [if_neg j1, so', Option.bind_some]
        simp only []
        rw [pm, Option.bind_some]
        simp only []
        exact ih (x + 1) (by omega) f _ _ _ _ _ _ _ _ _ _ _ _ _ _ _ _ _ _ _ _ _ _ _ A' (by omega) p2 (up A' p3 (fun _ => by rw [← pc]; exact p4 o1))
      · obtain ⟨z, ez⟩ := (sc.2 cc).1 e13 e14 QA QB
        have ez' : f_X1_arePrimeToEachOther N e13 e14 QA QB (lI (x : Int)) (lI (y : Int)) (lI m.1) (lI m.2) = some (0, z) := ez
        rw [ez', Option.bind_some, if_pos (show ((0 : Int32), z).1 = 0 from rfl)]
        simp only []
        exact ih (x + 1) (by omega) f _ _ _ _ _ _ _ _ _ _ _ _ _ _ _ _ _ _ _ _ _ _ _ A (by omega) hA (up A (fun _ q => q) (fun q => absurd q cc))
    · rw [if_neg c0]
      exact ih (x + 1) (by omega) f _ _ _ _ _ _ _ _ _ _ _ _ _ _ _ _ _ _ _ _ _ _ _ A (by omega) hA (up A (fun _ q => q) (fun _ => c0))
theorem mo_all {N : Nat} (hN : 1048576 ≤ N) (h : bx m (H : Int) (W : Int) S) (hb : en m ≤ 2000) : ∀ (my y : Nat), y + my = H → ∀ (K : Nat) (ec : Int32) (e1 e2 e3 e4 e5 e6 e7 e8 e9 e10 e11 e12 e13 e14 : Int64) (QA QB : Nat → Int64) (oa ob ua ub sa sb : Int64) (A : Nat → Int32), my < K → oinv m H W A → odone m W A (y * W) → ∃ (ec' : Int32) (e1' e2' e3' e4' e5' e6' e7' e8' e9' e10' e11' e12' e13' e14' : Int64) (QA' QB' : Nat → Int64) (oa' ob' ua' ub' sa' sb' : Int64) (A' : Nat → Int32), f_X10_markOrders_7 N K (lI y) ec e1 e2 e3 e4 e5 e6 e7 e8 e9 e10 e11 e12 e13 e14 QA QB (lI H) (lI W) (lI S) oa ob ua ub sa sb A (lI m.1) (lI m.2) = some (ec', e1', e2', e3', e4', e5', e6', e7', e8', e9', e10', e11', e12', e13', e14', QA', QB', oa', ob', ua', ub', sa', sb', A') ∧ oinv m H W A' ∧ odone m W A' (W * H) := by
  obtain ⟨n1, n2, n3, n4⟩ := bx_nat h hb
  have hWH : W * 1 ≤ W * H := Nat.mul_le_mul_left W n1
  intro my
  induction my with
  | zero =>
    intro y hy K ec e1 e2 e3 e4 e5 e6 e7 e8 e9 e10 e11 e12 e13 e14 QA QB oa ob ua ub sa sb A hf hA hd
    obtain ⟨K, rfl⟩ : ∃ f', K = f' + 1 := ⟨K - 1, by omega⟩
    obtain rfl : y = H := by omega
    rw [f_X10_markOrders_7, if_pos (by rw [lI_le ⟨by omega, by omega⟩ ⟨by omega, by omega⟩]; exact Int.le_refl _)]
    rw [Nat.mul_comm] at hd
    exact ⟨_, _, _, _, _, _, _, _, _, _, _, _, _, _, _, _, _, _, _, _, _, _, _, A, rfl, hA, hd⟩
  | succ my ih =>
    intro y hy K ec e1 e2 e3 e4 e5 e6 e7 e8 e9 e10 e11 e12 e13 e14 QA QB oa ob ua ub sa sb A hf hA hd
    obtain ⟨K, rfl⟩ : ∃ f', K = f' + 1 := ⟨K - 1, by omega⟩
    rw [f_X10_markOrders_7, if_neg (by rw [lI_le ⟨by omega, by omega⟩ ⟨by omega, by omega⟩]; omega), show (0 : Int64) = lI ((0 : Nat) : Int) from rfl]
    obtain ⟨ec2, e12, e22, e32, e42, e52, e62, e72, e82, e92, e102, e112, e122, e132, e142, QA2, QB2, oa2, ob2, ua2, ub2, sa2, sb2, A2, r1, r2, r3⟩ := mo_row (N := N) (K := K) hN h hb (show y < H by omega) W 0 (by omega) N ec e1 e2 e3 e4 e5 e6 e7 e8 e9 e10 e11 e12 e13 e14 QA QB oa ob ua ub sa sb A (by omega) hA (by rw [Nat.add_zero]; exact hd)
    rw [r1]
    exact ih (y + 1) (by omega) K _ _ _ _ _ _ _ _ _ _ _ _ _ _ _ _ _ _ _ _ _ _ _ A2 (by omega) r2 r3
theorem s_size (H W : Nat) : f_X4_size (lI H) (lI W) = some (nI (W * H)) := by unfold f_X4_size; rw [lI_mul, lI_i, iI_nI, Int.natCast_mul, Int.mul_comm]
theorem gr_scan {N : Nat} (hN : 1048576 ≤ N) (h : bx m (H : Int) (W : Int) S) (hb : en m ≤ 2000) (v2 : Int32) {A O : Nat → Int32} (hA : oinv m H W A) (hd : odone m W A (W * H)) (hO : ∀ i, i < W * H → O i = bI (copb W m i)) (ec : Int32) (e1 e2 e3 e4 e5 e6 e7 e8 e9 e10 e11 e12 e13 e14 : Int64) (QA QB : Nat → Int64) (oa ob ta tb ua ub sa sb : Int64) : ∀ (j n : Nat), n + j = W * H → ∀ (M : Nat) (c c' : Int32), M ≤ 2000 → (M ≠ 0 → c = c') → (∀ i, i < n → cop (cl W i) m → M ≠ 0) → ∃ r : Int32, (∀ f : Nat, j < f → ∃ y, f_X10_greatest_80 N f v2 (nI M) c (nI n) ec e1 e2 e3 e4 e5 e6 e7 e8 e9 e10 e11 e12 e13 e14 QA QB (lI H) (lI W) (lI S) oa ob ta tb ua ub sa sb A = some (r, y)) ∧ ∀ (f : Nat) (ra rb : Int64), j < f → ∃ y, f_X11_greatest_89 N f v2 (nI M) c' (nI n) ra rb (lI W) (lI H) (lI S) O = some (r, y) := by
  obtain ⟨n1, n2, n3, n4⟩ := bx_nat h hb
  have hWH : W * 1 ≤ W * H := Nat.mul_le_mul_left W n1
  intro j
  induction j with
  | zero =>
    intro n hn M c c' hM hc ho
    obtain rfl : n = W * H := by omega
    have hr := rs_isR h (1, 0)
    have c1 : cop (cl W (plc W (rs H W S (1, 0)))) m := by rw [cl_plc hr]; exact cop_cg (cg_rs h _) ⟨(1, 0), (0, 0), by refine e_ext ?_ ?_ <;> simp [ead, em]⟩
    have cc := hc (ho _ (plc_lt hr) c1)
    subst cc
    refine ⟨if v2 = 0 then nI M else c, fun f hf => ?_, fun f ra rb hf => ?_⟩
    · obtain ⟨f, rfl⟩ : ∃ f', f = f' + 1 := ⟨f - 1, by omega⟩
      rw [f_X10_greatest_80, s_size, Option.bind_some, if_pos (nI_le (Nat.le_refl _) (by omega))]
      by_cases c0 : v2 = 0
      · rw [if_pos c0, if_pos c0]; exact ⟨_, rfl⟩
      · rw [if_neg c0, if_neg c0]; exact ⟨_, rfl⟩
    · obtain ⟨f, rfl⟩ : ∃ f', f = f' + 1 := ⟨f - 1, by omega⟩
      rw [f_X11_greatest_89, ecl, Option.bind_some, if_pos (nI_le (Nat.le_refl _) (by omega))]
      by_cases c0 : v2 = 0
      · rw [if_pos c0, if_pos c0]; exact ⟨_, rfl⟩
      · rw [if_neg c0, if_neg c0]; exact ⟨_, rfl⟩
  | succ j ih =>
    intro n hn M c c' hM hc ho
    have hnL : n < W * H := by omega
    have stC : ∀ (f : Nat), f_X10_greatest_80 N (f + 1) v2 (nI M) c (nI n) ec e1 e2 e3 e4 e5 e6 e7 e8 e9 e10 e11 e12 e13 e14 QA QB (lI H) (lI W) (lI S) oa ob ta tb ua ub sa sb A = if A n ≤ nI M then if A n = nI M then f_X10_greatest_80 N f v2 (nI M) (c + 1) (nI (n + 1)) ec e1 e2 e3 e4 e5 e6 e7 e8 e9 e10 e11 e12 e13 e14 QA QB (lI H) (lI W) (lI S) oa ob ta tb ua ub sa sb A else f_X10_greatest_80 N f v2 (nI M) c (nI (n + 1)) ec e1 e2 e3 e4 e5 e6 e7 e8 e9 e10 e11 e12 e13 e14 QA QB (lI H) (lI W) (lI S) oa ob ta tb ua ub sa sb A else f_X10_greatest_80 N f v2 (A n) 1 (nI (n + 1)) ec e1 e2 e3 e4 e5 e6 e7 e8 e9 e10 e11 e12 e13 e14 QA QB (lI H) (lI W) (lI S) oa ob ta tb ua ub sa sb A := by
      intro f
      rw [f_X10_greatest_80, s_size, Option.bind_some, if_neg (nI_ge (by omega) (by omega)), s_markAt (by omega), Option.bind_some, nI_1]
      by_cases q : A n ≤ nI M
      · rw [if_pos q, if_pos q]
      · rw [if_neg q, if_neg q, if_pos rfl]; rfl
    by_cases co : cop (cl W n) m
    · rcases hA n hnL with z | ⟨e, q1, q2, q3, q4⟩
      · exact absurd z (hd n hnL co)
      have so := (s_orderOf hN h hb (x := cl W n) (cl_eb (H := H) (by omega) n2 hnL) q1.1 q2 ((cg_iff h).mpr q1.2.1) (fun j j1 j2 z => q1.2.2 j j1 j2 ((cg_iff h).mp z))).2
      have on : O n = 1 := by rw [hO n hnL, copb_iff.mpr co]; rfl
      have stR : ∀ (f : Nat) (ra rb : Int64), ∃ ra' rb' : Int64, f_X11_greatest_89 N (f + 1) v2 (nI M) c' (nI n) ra rb (lI W) (lI H) (lI S) O = if nI e ≤ nI M then if nI e = nI M then f_X11_greatest_89 N f v2 (nI M) (c' + 1) (nI (n + 1)) ra' rb' (lI W) (lI H) (lI S) O else f_X11_greatest_89 N f v2 (nI M) c' (nI (n + 1)) ra' rb' (lI W) (lI H) (lI S) O else f_X11_greatest_89 N f v2 (nI e) 1 (nI (n + 1)) ra' rb' (lI W) (lI H) (lI S) O := by
        intro f ra rb
        rw [f_X11_greatest_89, ecl, Option.bind_some, if_neg (nI_ge (by omega) (by omega)), if_neg (n_ok (by omega)), n_cl (by omega), on, if_neg j1, s_comes2 (by omega) (by omega) (by omega), Option.bind_some]
        simp only []
        rw [so, Option.bind_some]
        simp only []
        refine ⟨lI (rs H W S (1, 0)).1, lI (rs H W S (1, 0)).2, ?_⟩
        unfold f_X11_greatest_156
        by_cases q : nI e ≤ nI M
        · rw [if_pos q, if_pos q, if_pos q, if_pos q, nI_1]
        · rw [if_neg q, if_neg q, if_neg q, nI_1]
      rw [q4] at stC
      by_cases qe : e ≤ M
      · have i1 : nI e ≤ nI M := nI_le qe (by omega)
        have M0 : M ≠ 0 := by have := q1.1; omega
        by_cases qq : nI e = nI M
        · obtain ⟨r, rC, rR⟩ := ih (n + 1) (by omega) M (c + 1) (c' + 1) hM (fun z => by rw [hc z]) (fun _ _ _ => M0)
          refine ⟨r, fun f hf => ?_, fun f ra rb hf => ?_⟩
          · obtain ⟨f, rfl⟩ : ∃ f', f = f' + 1 := ⟨f - 1, by omega⟩
            rw [stC, if_pos i1, if_pos qq]; exact rC f (by omega)
          · obtain ⟨f, rfl⟩ : ∃ f', f = f' + 1 := ⟨f - 1, by omega⟩
            obtain ⟨ra', rb', e'⟩ := stR f ra rb
            rw [e', if_pos i1, if_pos qq]; exact rR f _ _ (by omega)
        · obtain ⟨r, rC, rR⟩ := ih (n + 1) (by omega) M c c' hM hc (fun _ _ _ => M0)
          refine ⟨r, fun f hf => ?_, fun f ra rb hf => ?_⟩
          · obtain ⟨f, rfl⟩ : ∃ f', f = f' + 1 := ⟨f - 1, by omega⟩
            rw [stC, if_pos i1, if_neg qq]; exact rC f (by omega)
          · obtain ⟨f, rfl⟩ : ∃ f', f = f' + 1 := ⟨f - 1, by omega⟩
            obtain ⟨ra', rb', e'⟩ := stR f ra rb
            rw [e', if_pos i1, if_neg qq]; exact rR f _ _ (by omega)
      · have i1 : ¬ nI e ≤ nI M := nI_ge (by omega) (by omega)
        have e0 := q1.1
        obtain ⟨r, rC, rR⟩ := ih (n + 1) (by omega) e 1 1 q2 (fun _ => rfl) (fun _ _ _ => by omega)
        refine ⟨r, fun f hf => ?_, fun f ra rb hf => ?_⟩
        · obtain ⟨f, rfl⟩ : ∃ f', f = f' + 1 := ⟨f - 1, by omega⟩
          rw [stC, if_neg i1]; exact rC f (by omega)
        · obtain ⟨f, rfl⟩ : ∃ f', f = f' + 1 := ⟨f - 1, by omega⟩
          obtain ⟨ra', rb', e'⟩ := stR f ra rb
          rw [e', if_neg i1]; exact rR f _ _ (by omega)
    · have an : A n = 0 := by
        rcases hA n hnL with z | ⟨e, q1, q2, q3, q4⟩
        · exact z
        · exact absurd q3 co
      have on : O n = 0 := by
        rw [hO n hnL]
        cases e2 : copb W m n
        · rfl
        · exact absurd (copb_iff.mp e2) co
      have stR : ∀ (f : Nat) (ra rb : Int64), f_X11_greatest_89 N (f + 1) v2 (nI M) c' (nI n) ra rb (lI W) (lI H) (lI S) O = f_X11_greatest_89 N f v2 (nI M) c' (nI (n + 1)) ra rb (lI W) (lI H) (lI S) O := by
        intro f ra rb
        rw [f_X11_greatest_89, ecl, Option.bind_some, if_neg (nI_ge (by omega) (by omega)), if_neg (n_ok (by omega)), n_cl (by omega), on, if_pos rfl, nI_1]
      rw [an] at stC
      have i1 : (0 : Int32) ≤ nI M := nI_pos' (by omega)
      have ho' : ∀ i, i < n + 1 → cop (cl W i) m → M ≠ 0 := by
        intro i hi hci
        by_cases ci : i = n
        · rw [ci] at hci; exact absurd hci co
        · exact ho i (by omega) hci
      by_cases qq : (0 : Int32) = nI M
      · have M0 : M = 0 := by
          rcases Nat.eq_zero_or_pos M with z | z
          · exact z
          · exact absurd qq.symm (nI_ne0 z (by omega))
        obtain ⟨r, rC, rR⟩ := ih (n + 1) (by omega) M (c + 1) c' hM (fun z => absurd M0 z) ho'
        refine ⟨r, fun f hf => ?_, fun f ra rb hf => ?_⟩
        · obtain ⟨f, rfl⟩ : ∃ f', f = f' + 1 := ⟨f - 1, by omega⟩
          rw [stC, if_pos i1, if_pos qq]; exact rC f (by omega)
        · obtain ⟨f, rfl⟩ : ∃ f', f = f' + 1 := ⟨f - 1, by omega⟩
          rw [stR]; exact rR f _ _ (by omega)
      · obtain ⟨r, rC, rR⟩ := ih (n + 1) (by omega) M c c' hM hc ho'
        refine ⟨r, fun f hf => ?_, fun f ra rb hf => ?_⟩
        · obtain ⟨f, rfl⟩ : ∃ f', f = f' + 1 := ⟨f - 1, by omega⟩
          rw [stC, if_pos i1, if_neg qq]; exact rC f (by omega)
        · obtain ⟨f, rfl⟩ : ∃ f', f = f' + 1 := ⟨f - 1, by omega⟩
          rw [stR]; exact rR f _ _ (by omega)
end GRT
