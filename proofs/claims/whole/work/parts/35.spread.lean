/-! ===== spread: how often each class is a third power ===== -/
theorem nl4 {c : Nat} (h : c < 4) : ¬ (4 : Int32) ≤ nI c := nI_ge (b := 4) h (by decide)
theorem nl6 {c : Nat} (h : c < 6) : ¬ (6 : Int32) ≤ nI c := nI_ge (b := 6) h (by decide)
theorem nl32 {c : Nat} (h : c < 32) : ¬ (32 : Int32) ≤ nI c := nI_ge (b := 32) h (by decide)
theorem nl60 {c : Nat} (h : c < 60) : ¬ (60 : Int32) ≤ nI c := nI_ge (b := 60) h (by decide)
theorem nl80 {c : Nat} (h : c < 80) : ¬ (80 : Int32) ≤ nI c := nI_ge (b := 80) h (by decide)
theorem nl320 {c : Nat} (h : c < 320) : ¬ (320 : Int32) ≤ nI c := nI_ge (b := 320) h (by decide)
theorem nl2000 {c : Nat} (h : c < 2000) : ¬ (2000 : Int32) ≤ nI c := nI_ge (b := 2000) h (by decide)
def cn (f : Nat → Nat) : Nat → Nat → Nat
  | 0, _ => 0
  | n + 1, i => cn f n i + (if f n = i then 1 else 0)
theorem cn_le (f : Nat → Nat) (i : Nat) : ∀ n : Nat, cn f n i ≤ n := by
  intro n
  induction n with
  | zero => exact Nat.le_refl _
  | succ n ih =>
    show cn f n i + _ ≤ n + 1
    by_cases c : f n = i
    · rw [if_pos c]; omega
    · rw [if_neg c]; omega
/-- a table of how often, up to the n-th -/
def isC (A : Nat → Int32) (L : Nat) (f : Nat → Nat) (n : Nat) : Prop := ∀ i : Nat, i < L → A i = nI (cn f n i)
theorem isC_step {A : Nat → Int32} {L : Nat} {f : Nat → Nat} {n : Nat} (h : isC A L f n) (hf : f n < L) : isC (upd A (f n) (A (f n) + 1)) L f (n + 1) := by
  intro i hi
  show upd A (f n) (A (f n) + 1) i = nI (cn f n i + (if f n = i then 1 else 0))
  by_cases c : f n = i
  · subst c
    rw [if_pos rfl, h (f n) hf, nI_1]
    unfold upd
    rw [if_pos rfl]
  · rw [if_neg c, Nat.add_zero, ← h i hi]
    unfold upd
    rw [if_neg (fun z => c z.symm)]
def cb (P : Nat → Bool) : Nat → Nat
  | 0 => 0
  | n + 1 => cb P n + (if P n then 1 else 0)
theorem cb_le (P : Nat → Bool) : ∀ n : Nat, cb P n ≤ n := by
  intro n
  induction n with
  | zero => exact Nat.le_refl _
  | succ n ih =>
    show cb P n + _ ≤ n + 1
    by_cases c : P n
    · rw [if_pos c]; omega
    · rw [if_neg c]; omega
section SPREAD
variable {m : Int × Int} {H W : Nat} {S : Int}
/-- the class of a place -/
def cl (W : Nat) (k : Nat) : Int × Int := (((k % W : Nat) : Int), ((k / W : Nat) : Int))
/-- the place of a residue -/
def plc (W : Nat) (r : Int × Int) : Nat := ((W : Int) * r.2 + r.1).toNat
def cu3 (r : Int × Int) : Int × Int := em (em r r) r
/-- the place of the third power of the class of a place -/
def cpl (H W : Nat) (S : Int) (k : Nat) : Nat := plc W (rs H W S (cu3 (cl W k)))
theorem cl_eq {x y : Nat} (hx : x < W) : cl W (y * W + x) = ((x : Int), (y : Int)) := by
  unfold cl
  have e1 : (y * W + x) % W = x := by rw [Nat.mul_comm, Nat.mul_add_mod, Nat.mod_eq_of_lt hx]
  have e2 : (y * W + x) / W = y := by rw [Nat.mul_comm, Nat.mul_add_div (by omega), Nat.div_eq_of_lt hx, Nat.add_zero]
  rw [e1, e2]
theorem cl_isR {k : Nat} (hk : k < W * H) : isR (H : Int) (W : Int) (cl W k) := by
  have hW : 0 < W := by
    rcases Nat.eq_zero_or_pos W with z | z
    · rw [z, Nat.zero_mul] at hk; omega
    · exact z
  have h1 := Nat.mod_lt k hW
  have h2 : k / W < H := (Nat.div_lt_iff_lt_mul hW).mpr (by rw [Nat.mul_comm]; exact hk)
  unfold cl isR
  exact ⟨Int.natCast_nonneg _, Int.ofNat_lt.mpr h1, Int.natCast_nonneg _, Int.ofNat_lt.mpr h2⟩
theorem cl_inj {k j : Nat} (h : cl W k = cl W j) : k = j := by
  unfold cl at h
  have h1 : ((k % W : Nat) : Int) = ((j % W : Nat) : Int) := congrArg Prod.fst h
  have h2 : ((k / W : Nat) : Int) = ((j / W : Nat) : Int) := congrArg Prod.snd h
  have e1 := Nat.div_add_mod k W
  have e2 := Nat.div_add_mod j W
  have h1' : k % W = j % W := by omega
  have h2' : k / W = j / W := by omega
  rw [h1', h2'] at e1
  omega
theorem plc_lt {r : Int × Int} (hr : isR (H : Int) (W : Int) r) : plc W r < W * H := by
  have := place_bd hr
  unfold plc
  omega
theorem plc_int {r : Int × Int} (hr : isR (H : Int) (W : Int) r) : ((plc W r : Nat) : Int) = (W : Int) * r.2 + r.1 := by
  have := place_bd hr
  unfold plc
  omega
theorem cl_plc {r : Int × Int} (hr : isR (H : Int) (W : Int) r) : cl W (plc W r) = r := by
  obtain ⟨r1, r2, r3, r4⟩ := hr
  obtain ⟨x, hx⟩ := Int.eq_ofNat_of_zero_le r1
  obtain ⟨y, hy⟩ := Int.eq_ofNat_of_zero_le r3
  have e : plc W r = y * W + x := by
    unfold plc
    rw [hx, hy]
    have : (W : Int) * (y : Int) + (x : Int) = ((y * W + x : Nat) : Int) := by rw [Int.natCast_add, Int.natCast_mul, Int.mul_comm]
    rw [this]; rfl
  rw [e, cl_eq (by omega)]
  exact e_ext hx.symm hy.symm
theorem plc_inj {r t : Int × Int} (hr : isR (H : Int) (W : Int) r) (ht : isR (H : Int) (W : Int) t) (h : plc W r = plc W t) : r = t := by
  rw [← cl_plc hr, ← cl_plc ht, h]
theorem plc_cl {k : Nat} (hk : k < W * H) : plc W (cl W k) = k := cl_inj (cl_plc (cl_isR (H := H) hk))
theorem cpl_lt (h : bx m (H : Int) (W : Int) S) (k : Nat) : cpl H W S k < W * H := plc_lt (rs_isR h _)
theorem ecl (H W : Nat) : f_X11_classesNow (lI W) (lI H) = some (nI (W * H)) := by unfold f_X11_classesNow; rw [lI_mul, lI_i, iI_nI, Int.natCast_mul]
theorem n_ok {n : Nat} (hn : n < 2000) : ¬ (nI n < 0 ∨ 2000 ≤ (nI n).toNatClampNeg) := nI_in hn (by decide)
theorem n_cl {n : Nat} (hn : n < 2000) : (nI n).toNatClampNeg = n := nI_clamp (by omega)
theorem s_plc {r : Int × Int} (hr : isR (H : Int) (W : Int) r) : f_X11_placeNow (lI r.1) (lI r.2) (lI W) = some (nI (plc W r)) := by
  rw [s_place (r := r) _ _ rfl rfl, ← plc_int hr, iI_nI]
theorem s_plcC {r : Int × Int} (hr : isR (H : Int) (W : Int) r) : f_X4_place (lI W) (lI r.1) (lI r.2) = some (nI (plc W r)) := by
  unfold f_X4_place
  rw [lI_mul, lI_add, lI_i, iI_nI, plc_int hr, Int.mul_comm]
theorem s_markAt {n : Nat} (hn : n < 2000) (A : Nat → Int32) : f_X10_markAt (nI n) A = some (A n) := by
  unfold f_X10_markAt
  rw [if_neg (fun z => n_ok hn (Or.inl z)), if_neg (nl2000 hn), if_neg (n_ok hn), n_cl hn]
theorem s_mark {n : Nat} (hn : n < 2000) (v : Int32) (A : Nat → Int32) : f_X10_mark (nI n) v A = some (upd A n v) := by
  unfold f_X10_mark
  rw [if_neg (fun z => n_ok hn (Or.inl z)), if_neg (nl2000 hn), if_neg (n_ok hn), n_cl hn]
theorem clr_loop (N : Nat) (v : Int32) : ∀ (j n : Nat), n + j = 2000 → ∀ (k : Nat) (A : Nat → Int32), j < k → (∀ i, i < n → A i = v) → ∃ A', f_X10_clearMarks_2 N k v (nI n) A = some A' ∧ ∀ i, i < 2000 → A' i = v := by
  intro j
  induction j with
  | zero =>
    intro n hn k A hk hA
    obtain ⟨k, rfl⟩ : ∃ k', k = k' + 1 := ⟨k - 1, by omega⟩
    obtain rfl : n = 2000 := by omega
    exact ⟨A, by rw [f_X10_clearMarks_2, if_pos (by decide)], hA⟩
  | succ j ih =>
    intro n hn k A hk hA
    obtain ⟨k, rfl⟩ : ∃ k', k = k' + 1 := ⟨k - 1, by omega⟩
    rw [f_X10_clearMarks_2, if_neg (nl2000 (by omega)), if_neg (n_ok (by omega)), n_cl (by omega), nI_1]
    refine ih (n + 1) (by omega) k _ (by omega) ?_
    intro i hi
    unfold upd
    by_cases c : i = n
    · rw [if_pos c]
    · rw [if_neg c]; exact hA i (by omega)
theorem s_clear {N : Nat} (hN : 1048576 ≤ N) (v : Int32) (A : Nat → Int32) : ∃ A', f_X10_clearMarks N v A = some A' ∧ ∀ i, i < 2000 → A' i = v :=
  clr_loop N v 2000 0 (by omega) N A (by omega) (fun i h => absurd h (by omega))
/-- the reference's table -/
theorem lc_loop {N : Nat} (h : bx m (H : Int) (W : Int) S) (hb : en m ≤ 2000) : ∀ (j n : Nat), n + j = W * H → ∀ (k : Nat) (ra rb : Int64) (A : Nat → Int32), j < k → isC A (W * H) (cpl H W S) n → ∃ (ra' rb' : Int64) (A' : Nat → Int32), f_X11_laysCubes_35 N k (nI n) ra rb (lI W) (lI H) (lI S) A = some (ra', rb', lI W, lI H, lI S, A') ∧ isC A' (W * H) (cpl H W S) (W * H) := by
  obtain ⟨n1, n2, n3, n4⟩ := bx_nat h hb
  have hb' : eb m := Int.le_trans hb (by decide)
  have hWH : W * 1 ≤ W * H := Nat.mul_le_mul_left W n1
  intro j
  induction j with
  | zero =>
    intro n hn k ra rb A hk hA
    obtain ⟨k, rfl⟩ : ∃ k', k = k' + 1 := ⟨k - 1, by omega⟩
    obtain rfl : n = W * H := by omega
    exact ⟨ra, rb, A, by rw [f_X11_laysCubes_35, ecl, Option.bind_some, if_pos (nI_le (by omega) (by omega))], hA⟩
  | succ j ih =>
    intro n hn k ra rb A hk hA
    obtain ⟨k, rfl⟩ : ∃ k', k = k' + 1 := ⟨k - 1, by omega⟩
    have hW0 : 0 < W := by omega
    have hx := Nat.mod_lt n hW0
    have hy : n / W < H := (Nat.div_lt_iff_lt_mul hW0).mpr (by rw [Nat.mul_comm]; omega)
    have en' : n / W * W + n % W = n := by rw [Nat.mul_comm]; exact Nat.div_add_mod n W
    have cc := s_cubes h hb' hx hy (by omega) (by omega)
    rw [en'] at cc
    have hr := rs_isR h (cu3 (cl W n))
    have hl := plc_lt hr
    rw [f_X11_laysCubes_35, ecl, Option.bind_some, if_neg (nI_ge (by omega) (by omega)), cc, Option.bind_some]
    have pp : f_X11_placeNow (lI (rs H W S (cu3 (cl W n))).1) (lI (rs H W S (cu3 (cl W n))).2) (lI W) = some (nI (cpl H W S n)) := s_plc hr
    have pp' := pp
    unfold cu3 cl at pp'
    simp only [] at pp' ⊢
    rw [pp', Option.bind_some, Option.bind_some, if_neg (n_ok (by unfold cpl; omega)), if_neg (n_ok (by unfold cpl; omega)), n_cl (by unfold cpl; omega), nI_1]
    exact ih (n + 1) (by omega) k _ _ _ (by omega) (isC_step hA (cpl_lt h n))
theorem lc_clear {N : Nat} (hN : 1048576 ≤ N) (h : bx m (H : Int) (W : Int) S) (hb : en m ≤ 2000) : ∀ (j n : Nat), n + j = W * H → ∀ (k : Nat) (ra rb : Int64) (A : Nat → Int32), j < k → (∀ i, i < n → A i = 0) → ∃ (ra' rb' : Int64) (A' : Nat → Int32), f_X11_laysCubes_9 N k (nI n) ra rb (lI W) (lI H) (lI S) A = some (ra', rb', lI W, lI H, lI S, A') ∧ isC A' (W * H) (cpl H W S) (W * H) := by
  obtain ⟨n1, n2, n3, n4⟩ := bx_nat h hb
  intro j
  induction j with
  | zero =>
    intro n hn k ra rb A hk hA
    obtain ⟨k, rfl⟩ : ∃ k', k = k' + 1 := ⟨k - 1, by omega⟩
    obtain rfl : n = W * H := by omega
    rw [f_X11_laysCubes_9, ecl, Option.bind_some, if_pos (nI_le (by omega) (by omega))]
    exact lc_loop h hb (W * H) 0 (by omega) N ra rb A (by omega) (fun i hi => hA i hi)
  | succ j ih =>
    intro n hn k ra rb A hk hA
    obtain ⟨k, rfl⟩ : ∃ k', k = k' + 1 := ⟨k - 1, by omega⟩
    rw [f_X11_laysCubes_9, ecl, Option.bind_some, if_neg (nI_ge (by omega) (by omega)), if_neg (n_ok (by omega)), n_cl (by omega), nI_1]
    refine ih (n + 1) (by omega) k ra rb _ (by omega) ?_
    intro i hi
    unfold upd
    by_cases c : i = n
    · rw [if_pos c]
    · rw [if_neg c]; exact hA i (by omega)
theorem s_laysCubes {N : Nat} (hN : 1048576 ≤ N) (h : bx m (H : Int) (W : Int) S) (hb : en m ≤ 2000) (e : f_X11_laysBox N (lI m.1) (lI m.2) = some (lI W, lI H, lI S)) (ra rb : Int64) (A : Nat → Int32) : ∃ (ra' rb' : Int64) (A' : Nat → Int32), f_X11_laysCubes N (lI m.1) (lI m.2) ra rb A = some (ra', rb', lI W, lI H, lI S, A') ∧ isC A' (W * H) (cpl H W S) (W * H) := by
  obtain ⟨n1, n2, n3, n4⟩ := bx_nat h hb
  unfold f_X11_laysCubes
  rw [e, Option.bind_some]
  exact lc_clear hN h hb (W * H) 0 (by omega) N ra rb A (by omega) (fun i hi => absurd hi (by omega))
/-- the class's table -/
theorem sp_row {N K : Nat} (h : bx m (H : Int) (W : Int) S) (hb : en m ≤ 2000) (v2 : Int32) (ta tb : Int64) {y : Nat} (hy : y < H) : ∀ (mx x : Nat), x + mx = W → ∀ (f : Nat) (oa ob : Int64) (A : Nat → Int32), mx < f → isC A (W * H) (cpl H W S) (y * W + x) → ∃ (oa' ob' : Int64) (A' : Nat → Int32), f_X10_spread_88 N (f_X10_spread_73 N K) f v2 (lI y) (lI x) (lI H) (lI W) (lI S) ta tb oa ob A = f_X10_spread_73 N K v2 (lI ((y + 1 : Nat) : Int)) (lI H) (lI W) (lI S) ta tb oa' ob' A' ∧ isC A' (W * H) (cpl H W S) ((y + 1) * W) := by
  obtain ⟨n1, n2, n3, n4⟩ := bx_nat h hb
  have hb' : eb m := Int.le_trans hb (by decide)
  have hWH : W * 1 ≤ W * H := Nat.mul_le_mul_left W n1
  have et : ∀ z : Nat, lI (z : Int) + 1 = lI ((z + 1 : Nat) : Int) := by intro z; rw [l1, lI_add]; rfl
  intro mx
  induction mx with
  | zero =>
    intro x hx f oa ob A hf hA
    obtain rfl : x = W := by omega
    obtain ⟨f, rfl⟩ : ∃ f', f = f' + 1 := ⟨f - 1, by omega⟩
    rw [f_X10_spread_88, if_pos (by rw [lI_le ⟨by omega, by omega⟩ ⟨by omega, by omega⟩]; exact Int.le_refl _), et]
    exact ⟨oa, ob, A, rfl, by rw [Nat.succ_mul]; exact hA⟩
  | succ mx ih =>
    intro x hx f oa ob A hf hA
    have hxW : x < W := by omega
    have hi := lt_box hxW hy
    obtain ⟨f, rfl⟩ : ∃ f', f = f' + 1 := ⟨f - 1, by omega⟩
    have hr : isR (H : Int) (W : Int) ((x : Int), (y : Int)) := ⟨by show (0 : Int) ≤ x; omega, by show (x : Int) < W; omega, by show (0 : Int) ≤ y; omega, by show (y : Int) < H; omega⟩
    have ok := cube_ok h hb' (by omega) hr
    have red := s_reduce h hb' ok.1 ok.2
    have hq := rs_isR h (cu3 ((x : Int), (y : Int)))
    have hl := plc_lt hq
    have ep : plc W (rs H W S (cu3 ((x : Int), (y : Int)))) = cpl H W S (y * W + x) := by unfold cpl; rw [cl_eq hxW]
    have pp : f_X4_place (lI W) (lI (rs H W S (cu3 ((x : Int), (y : Int)))).1) (lI (rs H W S (cu3 ((x : Int), (y : Int)))).2) = some (nI (cpl H W S (y * W + x))) := by rw [s_plcC hq, ep]
    have hl' : cpl H W S (y * W + x) < 2000 := by have := cpl_lt h (y * W + x); omega
    unfold cu3 at pp
    rw [f_X10_spread_88, if_neg (by rw [lI_le ⟨by omega, by omega⟩ ⟨by omega, by omega⟩]; omega)]
    unfold f_X5_set
    simp only [Option.bind_some, s_cube]
    have red' : f_X4_reduce (lI H) (lI W) (lI S) (lI (em (em ((x : Int), (y : Int)) ((x : Int), (y : Int))) ((x : Int), (y : Int))).1) (lI (em (em ((x : Int), (y : Int)) ((x : Int), (y : Int))) ((x : Int), (y : Int))).2) = some (lI (rs H W S (em (em ((x : Int), (y : Int)) ((x : Int), (y : Int))) ((x : Int), (y : Int)))).1, lI (rs H W S (em (em ((x : Int), (y : Int)) ((x : Int), (y : Int))) ((x : Int), (y : Int)))).2) := red
    rw [red', Option.bind_some]
    simp only []
    rw [pp, Option.bind_some, s_markAt hl', Option.bind_some, s_mark hl', Option.bind_some, et]
    exact ih (x + 1) (by omega) f _ _ _ (by omega) (isC_step hA (cpl_lt h _))
theorem sp_all {N : Nat} (hN : 1048576 ≤ N) (h : bx m (H : Int) (W : Int) S) (hb : en m ≤ 2000) (v2 : Int32) (ta tb : Int64) : ∀ (my y : Nat), y + my = H → ∀ (K : Nat) (oa ob : Int64) (A : Nat → Int32), my < K → isC A (W * H) (cpl H W S) (y * W) → ∃ (oa' ob' : Int64) (A' : Nat → Int32), f_X10_spread_73 N K v2 (lI y) (lI H) (lI W) (lI S) ta tb oa ob A = f_X10_spread_177 N N v2 0 0 (lI H) (lI W) (lI S) ta tb oa' ob' A' ∧ isC A' (W * H) (cpl H W S) (W * H) := by
  obtain ⟨n1, n2, n3, n4⟩ := bx_nat h hb
  have hWH : W * 1 ≤ W * H := Nat.mul_le_mul_left W n1
  intro my
  induction my with
  | zero =>
    intro y hy K oa ob A hK hA
    obtain rfl : y = H := by omega
    obtain ⟨K, rfl⟩ : ∃ K', K = K' + 1 := ⟨K - 1, by omega⟩
    rw [f_X10_spread_73, if_pos (by rw [lI_le ⟨by omega, by omega⟩ ⟨by omega, by omega⟩]; exact Int.le_refl _)]
    rw [Nat.mul_comm y W] at hA
    exact ⟨oa, ob, A, rfl, hA⟩
  | succ my ih =>
    intro y hy K oa ob A hK hA
    obtain ⟨K, rfl⟩ : ∃ K', K = K' + 1 := ⟨K - 1, by omega⟩
    rw [f_X10_spread_73, if_neg (by rw [lI_le ⟨by omega, by omega⟩ ⟨by omega, by omega⟩]; omega)]
    obtain ⟨oa', ob', A', e, hA'⟩ := sp_row (N := N) (K := K) h hb v2 ta tb (show y < H by omega) W 0 (by omega) N oa ob A (by omega) hA
    rw [show (0 : Int64) = lI ((0 : Nat) : Int) from rfl, e]
    exact ih (y + 1) (by omega) K oa' ob' A' (by omega) hA'
/-- how many are marked so -/
theorem sp_count {N : Nat} (hL : W * H ≤ 2000) (v2 : Int32) (ms ta tb oa ob : Int64) (A : Nat → Int32) : ∀ (j n : Nat), n + j = W * H → ∀ k : Nat, j < k → f_X10_spread_177 N k v2 (nI (cb (fun i => decide (A i = v2)) n)) (nI n) (lI H) (lI W) ms ta tb oa ob A = some (nI (cb (fun i => decide (A i = v2)) (W * H)), lI H, lI W, ms, ta, tb, oa, ob, A) := by
  have es : f_X4_size (lI H) (lI W) = some (nI (W * H)) := by unfold f_X4_size; rw [lI_mul, lI_i, iI_nI, Int.natCast_mul, Int.mul_comm]
  intro j
  induction j with
  | zero =>
    intro n hn k hk
    obtain ⟨k, rfl⟩ : ∃ k', k = k' + 1 := ⟨k - 1, by omega⟩
    obtain rfl : n = W * H := by omega
    rw [f_X10_spread_177, es, Option.bind_some, if_pos (nI_le (by omega) (by omega))]
  | succ j ih =>
    intro n hn k hk
    obtain ⟨k, rfl⟩ : ∃ k', k = k' + 1 := ⟨k - 1, by omega⟩
    rw [f_X10_spread_177, es, Option.bind_some, if_neg (nI_ge (by omega) (by omega)), s_markAt (by omega), Option.bind_some]
    have I := ih (n + 1) (by omega) k (by omega)
    have e : cb (fun i => decide (A i = v2)) (n + 1) = cb (fun i => decide (A i = v2)) n + (if decide (A n = v2) = true then 1 else 0) := rfl
    by_cases c : A n = v2
    · rw [if_pos (decide_eq_true c)] at e
      rw [if_pos c, nI_1, nI_1, ← e]; exact I
    · rw [if_neg (by rw [decide_eq_true_iff]; exact c), Nat.add_zero] at e
      rw [e] at I
      rw [if_neg c, nI_1]; exact I
theorem sp_countX {N : Nat} (hL : W * H ≤ 2000) (v2 : Int32) (ra rb ms : Int64) (A : Nat → Int32) : ∀ (j n : Nat), n + j = W * H → ∀ k : Nat, j < k → f_X11_spread_70 N k v2 (nI (cb (fun i => decide (A i = v2)) n)) (nI n) ra rb (lI W) (lI H) ms A = some (nI (cb (fun i => decide (A i = v2)) (W * H)), ra, rb, lI W, lI H, ms, A) := by
  intro j
  induction j with
  | zero =>
    intro n hn k hk
    obtain ⟨k, rfl⟩ : ∃ k', k = k' + 1 := ⟨k - 1, by omega⟩
    obtain rfl : n = W * H := by omega
    rw [f_X11_spread_70, ecl, Option.bind_some, if_pos (nI_le (by omega) (by omega))]
  | succ j ih =>
    intro n hn k hk
    obtain ⟨k, rfl⟩ : ∃ k', k = k' + 1 := ⟨k - 1, by omega⟩
    rw [f_X11_spread_70, ecl, Option.bind_some, if_neg (nI_ge (by omega) (by omega)), if_neg (n_ok (by omega)), n_cl (by omega)]
    have I := ih (n + 1) (by omega) k (by omega)
    have e : cb (fun i => decide (A i = v2)) (n + 1) = cb (fun i => decide (A i = v2)) n + (if decide (A n = v2) = true then 1 else 0) := rfl
    by_cases c : A n = v2
    · rw [if_pos (decide_eq_true c)] at e
      rw [if_pos c, nI_1, nI_1, ← e]; exact I
    · rw [if_neg (by rw [decide_eq_true_iff]; exact c), Nat.add_zero] at e
      rw [e] at I
      rw [if_neg c, nI_1, Int32.add_zero]; exact I
end SPREAD
theorem cb_congr {P Q : Nat → Bool} : ∀ n : Nat, (∀ i, i < n → P i = Q i) → cb P n = cb Q n := by
  intro n
  induction n with
  | zero => intro _; rfl
  | succ n ih =>
    intro h
    show cb P n + _ = cb Q n + _
    rw [ih (fun i hi => h i (by omega)), h n (by omega)]
theorem q_spread (N : Nat) (hN : 1048576 ≤ N) (v1 v2 : Int32) (m_drawers_full m_drawers_kept : Int32) (m_drawers_partA m_drawers_partB m_drawers_keptA m_drawers_keptB m_drawers_keptFull : Nat → Int32) (m_tape_size : Int32) (m_tape_bytes : Nat → Int32) (m_modulus_step m_modulus_width m_modulus_slant : Int64) (m_primes_count : Int32) (m_primes_primeA m_primes_primeB : Nat → Int32) (m_two_a m_two_b m_out_a m_out_b : Int64) (m_marks : Nat → Int32) (m_taped m_states : Int32) (m_ra m_rb m_boxWide m_boxHigh m_boxStep : Int64) (m_listed : Int32) (m_tape m_has m_keptHas m_first m_second m_keptFirst m_keptSecond m_cubed m_la0 m_lb0 : Nat → Int32) (hR : kR m_drawers_full m_drawers_kept m_drawers_partA m_drawers_partB m_drawers_keptA m_drawers_keptB m_drawers_keptFull m_tape_size m_tape_bytes m_primes_count m_primes_primeA m_primes_primeB m_taped m_tape m_has m_keptHas m_first m_second m_keptFirst m_keptSecond m_states m_la0 m_lb0 m_listed) : ∃ (y : Int32 × Int64 × Int64 × Int64 × Int64 × Int64 × Int64 × Int64 × (Nat → Int32)) (z : Int32 × Int64 × Int64 × Int64 × Int64 × Int64 × (Nat → Int32)), f_X10_spread N v1 v2 m_drawers_full m_drawers_partA m_drawers_partB m_modulus_step m_modulus_width m_modulus_slant m_two_a m_two_b m_out_a m_out_b m_marks = some y ∧ f_X11_spread N v1 v2 m_ra m_rb m_boxWide m_boxHigh m_boxStep m_has m_first m_second m_cubed = some z ∧ y.1 = z.1 ∧ kR m_drawers_full m_drawers_kept m_drawers_partA m_drawers_partB m_drawers_keptA m_drawers_keptB m_drawers_keptFull m_tape_size m_tape_bytes m_primes_count m_primes_primeA m_primes_primeB m_taped m_tape m_has m_keptHas m_first m_second m_keptFirst m_keptSecond m_states m_la0 m_lb0 m_listed := by
  have hR0 := hR
  obtain ⟨⟨dr, hD⟩, hK, hT, hP⟩ := hR
  unfold f_X10_spread f_X11_spread
  rcases dr_cases v1 with h1 | ⟨i, hi, rfl⟩
  · simp only [(dr_out h1).1, (dr_out h1).2, Option.bind_some, z00, if_true]
    exact ⟨_, _, rfl, rfl, rfl, hR0⟩
  obtain ⟨w, hw, rfl⟩ := iI_of v2
  have hlt : (iI w < 0) = (w < 0) := propext (iI_lt0 hw)
  have hle : (iI w ≤ 2000) = (w ≤ 2000) := propext (iI_le hw (b := 2000) ⟨by decide, by decide⟩)
  have hin : f_X11_in (iI w).toInt64 0 2000 = some (if 0 ≤ w ∧ w ≤ 2000 then 1 else 0) := s_in32 hw (l := 0) (h := 2000) ⟨by decide, by decide⟩ ⟨by decide, by decide⟩
  simp only [(dr_in hi).1, (dr_in hi).2, Option.bind_some, z10, if_false, hlt, hle, hin]
  by_cases cw : 0 ≤ w ∧ w ≤ 2000
  · rw [if_neg (show ¬ w < 0 by omega), if_pos cw.2]
    simp only [cw, and_self, if_true, z10, if_false]
    cases e1 : dr i with
    | none =>
      simp only [s_has0 hD hi e1, hD.hasN hi e1, Option.bind_some, z00, if_true, dr_cl hi, dr_n0 hi, dr_8 hi, or_self, if_false]
      exact ⟨_, _, rfl, rfl, rfl, hR0⟩
    | some p =>
      obtain ⟨c, d⟩ := p
      obtain ⟨hn, -, -, f1, g1⟩ := hD.num hi e1
      simp only [s_has1 hD hi e1, hD.has1 hi e1, s_load hD hi e1, Option.bind_some, z10, if_false, dr_cl hi, dr_n0 hi, dr_8 hi, or_self]
      rcases few_cases hN hD hi e1 (L := 2000) ⟨by decide, by decide⟩ m_modulus_step m_modulus_width m_modulus_slant with ⟨⟨y, k1⟩, k2⟩ | ⟨H, W, S, q1, q2, hB, k1, k2, k3⟩
      · have k1' : f_X4_openFew N 2000 m_modulus_step m_modulus_width m_modulus_slant (lI c) (lI d) = some (0, y) := k1
        have k2' : f_X11_isGreat (nI i) 2000 m_first m_second = some 1 := k2
        simp only [Option.bind_some, z00, z10, if_true, if_false, k1', k2']
        exact ⟨_, _, rfl, rfl, rfl, hR0⟩
      · have k1' : f_X4_openFew N 2000 m_modulus_step m_modulus_width m_modulus_slant (lI c) (lI d) = some (1, lI H, lI W, lI S) := k1
        have k2' : f_X11_isGreat (nI i) 2000 m_first m_second = some 0 := k2
        obtain ⟨n1, n2, n3, n4⟩ := bx_nat hB q1
        have hWH : W * 1 ≤ W * H := Nat.mul_le_mul_left W n1
        obtain ⟨A0, a1, a2⟩ := s_clear hN 0 m_marks
        obtain ⟨ra', rb', A', b1, b2⟩ := s_laysCubes hN hB q1 k3 m_ra m_rb m_cubed
        have b1' : f_X11_laysCubes N (lI c) (lI d) m_ra m_rb m_cubed = some (ra', rb', lI W, lI H, lI S, A') := b1
        obtain ⟨oa', ob', A1, d1, d2⟩ := sp_all hN hB q1 (iI w) (lI c) (lI d) H 0 (by omega) N m_out_a m_out_b A0 (by omega) (fun i hi => by rw [a2 i (by omega), Nat.zero_mul]; rfl)
        have d1' : f_X10_spread_73 N N (iI w) 0 (lI H) (lI W) (lI S) (lI c) (lI d) m_out_a m_out_b A0 = f_X10_spread_177 N N (iI w) 0 0 (lI H) (lI W) (lI S) (lI c) (lI d) oa' ob' A1 := d1
        simp only [Option.bind_some, z00, z10, if_true, if_false, k1', k2', a1, f1, g1, iI_l hn.b32.1, iI_l hn.b32.2, b1', d1']
        have g1 := sp_count (N := N) (H := H) (W := W) (by omega) (iI w) (lI S) (lI c) (lI d) oa' ob' A1 (W * H) 0 (by omega) N (by omega)
        have g2 := sp_countX (N := N) (H := H) (W := W) (by omega) (iI w) ra' rb' (lI S) A' (W * H) 0 (by omega) N (by omega)
        have g1' : f_X10_spread_177 N N (iI w) 0 0 (lI H) (lI W) (lI S) (lI c) (lI d) oa' ob' A1 = _ := g1
        have g2' : f_X11_spread_70 N N (iI w) 0 0 ra' rb' (lI W) (lI H) (lI S) A' = _ := g2
        rw [g1', g2']
        refine ⟨_, _, rfl, rfl, ?_, hR0⟩
        show nI (cb (fun i => decide (A1 i = iI w)) (W * H)) = nI (cb (fun i => decide (A' i = iI w)) (W * H))
        rw [cb_congr (W * H) (fun i hi => by show decide (A1 i = iI w) = decide (A' i = iI w); rw [d2 i hi, b2 i hi])]
  · have cA : ∀ {α : Type} {P R : Option α}, (if w < 0 then P else if w ≤ 2000 then R else P) = P := by
      intro α P R
      by_cases c1 : w < 0
      · rw [if_pos c1]
      · rw [if_neg c1, if_neg (by omega)]
    rw [cA]
    simp only [cw, if_false, z00, if_true]
    exact ⟨_, _, rfl, rfl, rfl, hR0⟩
