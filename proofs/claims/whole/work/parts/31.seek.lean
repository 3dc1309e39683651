/-! ===== residues one by one: root, linear ===== -/
section SEEK
variable {m : Int × Int} {H W : Nat} {S : Int}
theorem bx_nat (h : bx m (H : Int) (W : Int) S) {L : Int} (hL : en m ≤ L) : 1 ≤ H ∧ H ≤ W ∧ ((W * H : Nat) : Int) = en m ∧ ((W * H : Nat) : Int) ≤ L := by
  obtain ⟨h1, h2, h3, -⟩ := h
  have e : ((W * H : Nat) : Int) = (H : Int) * (W : Int) := by rw [Int.natCast_mul, Int.mul_comm]
  exact ⟨by omega, by omega, by rw [e]; exact h3, by rw [e, h3]; exact hL⟩
theorem lt_box {x y : Nat} (hx : x < W) (hy : y < H) : y * W + x < W * H := by
  have : (y + 1) * W ≤ H * W := Nat.mul_le_mul_right W hy
  rw [Nat.succ_mul] at this
  rw [Nat.mul_comm W H]; omega
theorem s_comes {x y : Nat} (hx : x < W) (hW : W ≤ 300000000) (hi : y * W + x < 2147483648) : f_X11_comes (nI (y * W + x)) (lI W) = some (lI x, lI y) := by
  have bW : b64 (W : Int) := ⟨by omega, by omega⟩
  have bi : b64 ((y * W + x : Nat) : Int) := ⟨by omega, by omega⟩
  have n0 : ¬ lI (W : Int) = 0 := by rw [lI_0 bW]; omega
  have e1 : (nI (y * W + x)).toInt64 = lI ((y * W + x : Nat) : Int) := by rw [iI_nI, iI_l ⟨by omega, by omega⟩]
  have e2 : ((y * W + x : Nat) : Int).tmod W = x := by
    rw [Int.tmod_eq_emod_of_nonneg (by omega)]
    have : (y * W + x) % W = x := by rw [Nat.mul_comm, Nat.mul_add_mod, Nat.mod_eq_of_lt hx]
    omega
  have e3 : ((y * W + x : Nat) : Int).tdiv W = y := by
    rw [Int.tdiv_eq_ediv_of_nonneg (by omega)]
    have : (y * W + x) / W = y := by
      rw [Nat.mul_comm, Nat.mul_add_div (by omega), Nat.div_eq_of_lt hx, Nat.add_zero]
    omega
  unfold f_X11_comes f_X11_sets
  rw [if_neg n0, if_neg n0, e1, lI_rem bi bW, lI_div bi bW, e2, e3]
  rfl
theorem s_place {r : Int × Int} (x y : Int64) (hx : x = lI r.1) (hy : y = lI r.2) : f_X11_placeNow x y (lI W) = some (iI (W * r.2 + r.1)) := by
  unfold f_X11_placeNow
  rw [hx, hy, lI_mul, lI_add, lI_i]
theorem place_inj {r t : Int × Int} (hr : isR H W r) (ht : isR H W t) (h : (W : Int) * r.2 + r.1 = W * t.2 + t.1) : r = t := by
  obtain ⟨r1, r2, r3, r4⟩ := hr
  obtain ⟨t1, t2, t3, t4⟩ := ht
  have e1 := em_of (a := (W : Int) * r.2 + r.1) (show (0 : Int) < W by omega) rfl r1 r2
  have e2 := em_of (a := (W : Int) * t.2 + t.1) (show (0 : Int) < W by omega) rfl t1 t2
  rw [h] at e1
  exact e_ext (by omega) (by omega)
theorem place_bd {r : Int × Int} (hr : isR (H : Int) (W : Int) r) : 0 ≤ (W : Int) * r.2 + r.1 ∧ (W : Int) * r.2 + r.1 < ((W * H : Nat) : Int) := by
  obtain ⟨r1, r2, r3, r4⟩ := hr
  have p := Int.mul_nonneg (show (0 : Int) ≤ W by omega) r3
  have q := Int.mul_le_mul_of_nonneg_left (show r.2 + 1 ≤ H by omega) (show (0 : Int) ≤ W by omega)
  rw [Int.mul_add] at q
  rw [Int.natCast_mul]
  omega
theorem s_isSame {r t : Int × Int} (hr : b64 r.1 ∧ b64 r.2) (ht : b64 t.1 ∧ b64 t.2) : f_X5_isSame (lI r.1) (lI r.2) (lI t.1) (lI t.2) = some (if decide (r = t) then 1 else 0) := by
  unfold f_X5_isSame
  simp only [lI_eq hr.1 ht.1, lI_eq hr.2 ht.2]
  by_cases c : r = t
  · subst c; simp only [if_true, decide_true]
  · have : ¬ (r.1 = t.1 ∧ r.2 = t.2) := fun z => c (e_ext z.1 z.2)
    by_cases c1 : r.1 = t.1
    · have c2 : ¬ r.2 = t.2 := fun z => this ⟨c1, z⟩
      rw [if_pos c1, if_neg c2, if_neg (by simp only [decide_eq_true_eq]; exact c)]
    · rw [if_neg c1, if_neg (by simp only [decide_eq_true_eq]; exact c)]
theorem isR_64 {r : Int × Int} (hW : W ≤ 300000000) (hH : H ≤ W) (hr : isR (H : Int) (W : Int) r) : b64 r.1 ∧ b64 r.2 := by
  obtain ⟨r1, r2, r3, r4⟩ := hr
  exact ⟨⟨by omega, by omega⟩, ⟨by omega, by omega⟩⟩
/-- what is looked at: the third power, or the product -/
def sg (cu : Int32) (one r : Int × Int) : Int × Int := if cu = 0 then em one r else em (em r r) r
theorem s_cube (a b : Int) : f_X5_cube (lI a) (lI b) = some (lI (em (em (a, b) (a, b)) (a, b)).1, lI (em (em (a, b) (a, b)) (a, b)).2) := by
  unfold f_X5_cube
  rw [l3]
  simp only [lI_mul, lI_add, lI_sub, em]
  have e1 : a * a * a + b * b * b - 3 * a * b * b = (a * a - b * b) * a - (a * b + b * a - b * b) * b := by grind
  have e2 : 3 * a * b * (a - b) = (a * a - b * b) * b + (a * b + b * a - b * b) * a - (a * b + b * a - b * b) * b := by grind
  rw [e1, e2]
theorem cube_ok (h : bx m (H : Int) (W : Int) S) (hb : eb m) (hW : W ≤ 2000) {r : Int × Int} (hr : isR (H : Int) (W : Int) r) : b64 (em (em r r) r).2 ∧ b64 ((em (em r r) r).1 - (em (em r r) r).2 / H * S) := by
  have hHW := h.2.1
  obtain ⟨r1, r2, r3, r4⟩ := hr
  have q1 := mul_bd (show -2000 ≤ r.1 by omega) (show r.1 ≤ 2000 by omega) (show -2000 ≤ r.1 by omega) (show r.1 ≤ 2000 by omega)
  have q2 := mul_bd (show -2000 ≤ r.1 by omega) (show r.1 ≤ 2000 by omega) (show -2000 ≤ r.2 by omega) (show r.2 ≤ 2000 by omega)
  have q3 := mul_bd (show -2000 ≤ r.2 by omega) (show r.2 ≤ 2000 by omega) (show -2000 ≤ r.2 by omega) (show r.2 ≤ 2000 by omega)
  have q4 := Int.mul_comm r.1 r.2
  have u1 := mul_bd (show -8000000 ≤ r.1 * r.1 - r.2 * r.2 by omega) (show r.1 * r.1 - r.2 * r.2 ≤ 8000000 by omega) (show -2000 ≤ r.1 by omega) (show r.1 ≤ 2000 by omega)
  have u2 := mul_bd (show -8000000 ≤ r.1 * r.1 - r.2 * r.2 by omega) (show r.1 * r.1 - r.2 * r.2 ≤ 8000000 by omega) (show -2000 ≤ r.2 by omega) (show r.2 ≤ 2000 by omega)
  have u3 := mul_bd (show -12000000 ≤ r.1 * r.2 + r.2 * r.1 - r.2 * r.2 by omega) (show r.1 * r.2 + r.2 * r.1 - r.2 * r.2 ≤ 12000000 by omega) (show -2000 ≤ r.1 by omega) (show r.1 ≤ 2000 by omega)
  have u4 := mul_bd (show -12000000 ≤ r.1 * r.2 + r.2 * r.1 - r.2 * r.2 by omega) (show r.1 * r.2 + r.2 * r.1 - r.2 * r.2 ≤ 12000000 by omega) (show -2000 ≤ r.2 by omega) (show r.2 ≤ 2000 by omega)
  have e1 : (em (em r r) r).1 = (r.1 * r.1 - r.2 * r.2) * r.1 - (r.1 * r.2 + r.2 * r.1 - r.2 * r.2) * r.2 := rfl
  have e2 : (em (em r r) r).2 = (r.1 * r.1 - r.2 * r.2) * r.2 + (r.1 * r.2 + r.2 * r.1 - r.2 * r.2) * r.1 - (r.1 * r.2 + r.2 * r.1 - r.2 * r.2) * r.2 := rfl
  have k : b64 (em (em r r) r).2 ∧ b64 ((em (em r r) r).1 - (em (em r r) r).2 / H * S) := by
    have hh := bx_bd h hb
    have b2 : -100000000000 ≤ (em (em r r) r).2 ∧ (em (em r r) r).2 ≤ 100000000000 := by rw [e2]; omega
    have b1 : -100000000000 ≤ (em (em r r) r).1 ∧ (em (em r r) r).1 ≤ 100000000000 := by rw [e1]; omega
    have d := ediv_bd (show (1 : Int) ≤ H by omega) b2.1 b2.2 (by decide)
    have d2 := mul_bd d.1 d.2 (show -2000 ≤ S by omega) (show S ≤ 2000 by omega)
    exact ⟨⟨by omega, by omega⟩, ⟨by omega, by omega⟩⟩
  exact k
theorem s_cubes (h : bx m (H : Int) (W : Int) S) (hb : eb m) {x y : Nat} (hx : x < W) (hy : y < H) (hW : W ≤ 300000000) (hi : y * W + x < 2147483648) : f_X11_cubes (nI (y * W + x)) (lI W) (lI H) (lI S) = some (lI (rs H W S (em (em (x, y) (x, y)) (x, y))).1, lI (rs H W S (em (em (x, y) (x, y)) (x, y))).2) := by
  have hr : isR (H : Int) (W : Int) ((x : Int), (y : Int)) := ⟨by show (0 : Int) ≤ x; omega, by show (x : Int) < W; omega, by show (0 : Int) ≤ y; omega, by show (y : Int) < H; omega⟩
  have t1 := s_timesIn h hb hr hr
  have t2 := s_timesIn h hb (rs_isR h (em (x, y) (x, y))) hr
  unfold f_X11_cubes
  rw [s_comes hx hW hi, Option.bind_some, t1, Option.bind_some, t2, Option.bind_some, rs_mul h]
/-- both sides at one place: found or not -/
theorem sk_row {N K : Nat} (h : bx m (H : Int) (W : Int) S) (hb : en m ≤ 2000) (cu v3 v4 : Int32) (hcu : cu = 0 ∨ cu = 1) (hv3 : v3 = -1 ∨ ∃ k : Nat, k < 2147483648 ∧ v3 = nI k) {one one2 t : Int × Int} (h12 : cu = 0 → one2 = one) (ho : isR (H : Int) (W : Int) one) (ht : isR (H : Int) (W : Int) t) {y : Nat} (hy : y < H) (nx : ∀ (c : Nat) (oa ob ra rb : Int64) (k' : Nat), c ≤ (y + 1) * W → W * H < (y + 1) * W + k' → (∀ j : Nat, j < c → nI j ≠ v3) → ∃ yv zv, f_X10_seekResidue_6 N K cu v3 (nI c) (lI ((y + 1 : Nat) : Int)) (lI H) (lI W) (lI S) (lI one.1) (lI one.2) oa ob (lI t.1) (lI t.2) = some yv ∧ f_X11_looksFor_39 N k' cu v3 v4 (iI (W * t.2 + t.1)) (lI one2.1) (lI one2.2) (nI c) (nI ((y + 1) * W)) ra rb (lI W) (lI H) (lI S) = some zv ∧ f_X10_foundAnswer yv.1 v3 v4 yv.2.1 yv.2.2 = some zv.1) : ∀ (mx x : Nat), x + mx = W → ∀ (f c : Nat) (oa ob ra rb : Int64) (k' : Nat), mx < f → c ≤ y * W + x → W * H < y * W + x + k' → (∀ j : Nat, j < c → nI j ≠ v3) → ∃ yv zv, f_X10_seekResidue_22 N (f_X10_seekResidue_6 N K) f cu v3 (nI c) (lI y) (lI x) (lI H) (lI W) (lI S) (lI one.1) (lI one.2) oa ob (lI t.1) (lI t.2) = some yv ∧ f_X11_looksFor_39 N k' cu v3 v4 (iI (W * t.2 + t.1)) (lI one2.1) (lI one2.2) (nI c) (nI (y * W + x)) ra rb (lI W) (lI H) (lI S) = some zv ∧ f_X10_foundAnswer yv.1 v3 v4 yv.2.1 yv.2.2 = some zv.1 := by
  obtain ⟨n1, n2, n3, n4⟩ := bx_nat h hb
  have hb' : eb m := Int.le_trans hb (by decide)
  have hW : W ≤ 2000 := by
    have : W * 1 ≤ W * H := Nat.mul_le_mul_left W n1
    omega
  have et : ∀ z : Nat, lI (z : Int) + 1 = lI ((z + 1 : Nat) : Int) := by intro z; rw [l1, lI_add]; rfl
  intro mx
  induction mx with
  | zero =>
    intro x hx f c oa ob ra rb k' hf hc hk hv
    obtain rfl : x = W := by omega
    obtain ⟨f, rfl⟩ : ∃ f', f = f' + 1 := ⟨f - 1, by omega⟩
    rw [f_X10_seekResidue_22, if_pos (by rw [lI_le ⟨by omega, by omega⟩ ⟨by omega, by omega⟩]; exact Int.le_refl _), et]
    have e : y * x + x = (y + 1) * x := (Nat.succ_mul y x).symm
    rw [e]
    exact nx c oa ob ra rb k' (by rw [← e]; exact hc) (by rw [← e]; exact hk) hv
  | succ mx ih =>
    intro x hx f c oa ob ra rb k' hf hc hk hv
    have hxW : x < W := by omega
    have hi := lt_box hxW hy
    obtain ⟨f, rfl⟩ : ∃ f', f = f' + 1 := ⟨f - 1, by omega⟩
    obtain ⟨k', rfl⟩ : ∃ k'', k' = k'' + 1 := ⟨k' - 1, by omega⟩
    have hr : isR (H : Int) (W : Int) ((x : Int), (y : Int)) := ⟨by show (0 : Int) ≤ x; omega, by show (x : Int) < W; omega, by show (0 : Int) ≤ y; omega, by show (y : Int) < H; omega⟩
    -- what both reckon
    have hA : (if cu = 0 then (f_X5_multiply (lI x) (lI y) (lI one.1) (lI one.2)).bind fun y68 => f_X10_seekResidue_71 N (f_X10_seekResidue_22 N (f_X10_seekResidue_6 N K) f) cu v3 (nI c) (lI y) (lI x) (lI H) (lI W) (lI S) (lI one.1) (lI one.2) y68.1 y68.2 (lI t.1) (lI t.2) else (f_X5_cube (lI x) (lI y)).bind fun y54 => f_X10_seekResidue_71 N (f_X10_seekResidue_22 N (f_X10_seekResidue_6 N K) f) cu v3 (nI c) (lI y) (lI x) (lI H) (lI W) (lI S) (lI one.1) (lI one.2) y54.1 y54.2 (lI t.1) (lI t.2)) = (f_X5_isSame (lI (rs H W S (sg cu one (x, y))).1) (lI (rs H W S (sg cu one (x, y))).2) (lI t.1) (lI t.2)).bind fun y87 => if y87 = 0 then f_X10_seekResidue_22 N (f_X10_seekResidue_6 N K) f cu v3 (nI c) (lI y) (lI x + 1) (lI H) (lI W) (lI S) (lI one.1) (lI one.2) (lI (rs H W S (sg cu one (x, y))).1) (lI (rs H W S (sg cu one (x, y))).2) (lI t.1) (lI t.2) else if nI c + 1 - 1 = v3 then some (nI c + 1, lI x, lI y) else f_X10_seekResidue_22 N (f_X10_seekResidue_6 N K) f cu v3 (nI c + 1) (lI y) (lI x + 1) (lI H) (lI W) (lI S) (lI one.1) (lI one.2) (lI (rs H W S (sg cu one (x, y))).1) (lI (rs H W S (sg cu one (x, y))).2) (lI t.1) (lI t.2) := by
      unfold f_X10_seekResidue_71 f_X5_set
      rcases hcu with rfl | rfl
      · have k := mul_ok h hb' hr ho
        have s := s_reduce h hb' k.1 k.2.1
        have e : sg 0 one ((x : Int), (y : Int)) = em ((x : Int), (y : Int)) one := by unfold sg; rw [if_pos rfl, em_comm]
        rw [if_pos rfl, s_multiply, Option.bind_some, e, s, Option.bind_some]
        rfl
      · have k := cube_ok h hb' hW hr
        have s := s_reduce h hb' k.1 k.2
        have e : sg 1 one ((x : Int), (y : Int)) = em (em ((x : Int), (y : Int)) ((x : Int), (y : Int))) ((x : Int), (y : Int)) := by unfold sg; rw [if_neg (by decide)]
        rw [if_neg (by decide), s_cube, Option.bind_some, e, s, Option.bind_some]
        rfl
    have hB : (if cu = 0 then (f_X11_comes (nI (y * W + x)) (lI W)).bind fun y64 => (f_X11_timesIn (lI one2.1) (lI one2.2) y64.1 y64.2 (lI W) (lI H) (lI S)).bind fun y80 => f_X11_looksFor_83 N (f_X11_looksFor_39 N k') cu v3 v4 (iI (W * t.2 + t.1)) (lI one2.1) (lI one2.2) (nI c) (nI (y * W + x)) y80.1 y80.2 (lI W) (lI H) (lI S) else (f_X11_cubes (nI (y * W + x)) (lI W) (lI H) (lI S)).bind fun y55 => f_X11_looksFor_83 N (f_X11_looksFor_39 N k') cu v3 v4 (iI (W * t.2 + t.1)) (lI one2.1) (lI one2.2) (nI c) (nI (y * W + x)) y55.1 y55.2 (lI W) (lI H) (lI S)) = f_X11_looksFor_83 N (f_X11_looksFor_39 N k') cu v3 v4 (iI (W * t.2 + t.1)) (lI one2.1) (lI one2.2) (nI c) (nI (y * W + x)) (lI (rs H W S (sg cu one (x, y))).1) (lI (rs H W S (sg cu one (x, y))).2) (lI W) (lI H) (lI S) := by
      rcases hcu with rfl | rfl
      · have e : sg 0 one ((x : Int), (y : Int)) = em one ((x : Int), (y : Int)) := by unfold sg; rw [if_pos rfl]
        have e12 := h12 rfl
        have tI := s_timesIn h hb' ho hr
        rw [if_pos rfl, s_comes hxW (by omega) (by omega), Option.bind_some, e12, tI, Option.bind_some, e]
      · have e : sg 1 one ((x : Int), (y : Int)) = em (em ((x : Int), (y : Int)) ((x : Int), (y : Int))) ((x : Int), (y : Int)) := by unfold sg; rw [if_neg (by decide)]
        rw [if_neg (by decide), s_cubes h hb' hxW hy (by omega) (by omega), Option.bind_some, e]
    have hq := rs_isR h (sg cu one ((x : Int), (y : Int)))
    have b1 := isR_64 (by omega) n2 hq
    have b2 := isR_64 (by omega) n2 ht
    have pb1 := place_bd hq
    have pb2 := place_bd ht
    have ecl : f_X11_classesNow (lI W) (lI H) = some (nI (W * H)) := by unfold f_X11_classesNow; rw [lI_mul, lI_i, iI_nI, Int.natCast_mul]
    rw [f_X10_seekResidue_22, if_neg (by rw [lI_le ⟨by omega, by omega⟩ ⟨by omega, by omega⟩]; omega)]
    have hset : ∀ (g : Int64 × Int64 → Option (Int32 × Int64 × Int64)), (f_X5_set (lI x) (lI y)).bind g = g (lI x, lI y) := fun g => rfl
    rw [hset, f_X11_looksFor_39, ecl, Option.bind_some, if_neg (nI_ge hi (by omega))]
    simp only [] at hA hB ⊢
    rw [hA, hB, s_isSame b1 b2, Option.bind_some]
    unfold f_X11_looksFor_83
    rw [s_place (r := rs H W S (sg cu one ((x : Int), (y : Int)))) _ _ rfl rfl, Option.bind_some, nI_1, nI_1, nI_pred, et]
    have I := fun (c : Nat) (oa ob ra rb : Int64) (p1 : c ≤ y * W + (x + 1)) (p2 : ∀ j : Nat, j < c → nI j ≠ v3) => ih (x + 1) (by omega) f c oa ob ra rb k' (by omega) p1 (by omega) p2
    by_cases cs : rs H W S (sg cu one ((x : Int), (y : Int))) = t
    · have cd : decide (rs H W S (sg cu one ((x : Int), (y : Int))) = t) = true := decide_eq_true cs
      have cp : iI (W * (rs H W S (sg cu one ((x : Int), (y : Int)))).2 + (rs H W S (sg cu one ((x : Int), (y : Int)))).1) = iI (W * t.2 + t.1) := by rw [cs]
      rw [if_pos cd, if_neg j1, if_pos cp]
      by_cases cv : nI c = v3
      · rw [if_pos cv, if_pos cv, s_comes hxW (by omega) (by omega), Option.bind_some]
        obtain ⟨r, r1, r2⟩ := s_part2 v4 (lI (x : Int)) (lI (y : Int))
        rw [r2, Option.bind_some]
        refine ⟨_, _, rfl, rfl, ?_⟩
        unfold f_X10_foundAnswer
        rw [← cv, if_neg (nm1 (by omega)), if_pos (nI_lt (by omega) (by omega)), r1, Option.bind_some]
      · rw [if_neg cv, if_neg cv]
        exact I (c + 1) _ _ _ _ (by omega) (fun j p => by
          by_cases e : j = c
          · rw [e]; exact cv
          · exact hv j (by omega))
    · have cd : ¬ decide (rs H W S (sg cu one ((x : Int), (y : Int))) = t) = true := by simp only [decide_eq_true_eq]; exact cs
      rw [if_neg cd, if_pos rfl, if_neg (fun z => cs (place_inj hq ht ((iI_eq ⟨by omega, by omega⟩ ⟨by omega, by omega⟩).mp z)))]
      exact I c _ _ _ _ (by omega) hv
theorem sk_all {N : Nat} (hN : 1048576 ≤ N) (h : bx m (H : Int) (W : Int) S) (hb : en m ≤ 2000) (cu v3 v4 : Int32) (hcu : cu = 0 ∨ cu = 1) (hv3 : v3 = -1 ∨ ∃ k : Nat, k < 2147483648 ∧ v3 = nI k) {one one2 t : Int × Int} (h12 : cu = 0 → one2 = one) (ho : isR (H : Int) (W : Int) one) (ht : isR (H : Int) (W : Int) t) : ∀ (my y : Nat), y + my = H → ∀ (K c : Nat) (oa ob ra rb : Int64) (k' : Nat), my < K → c ≤ y * W → W * H < y * W + k' → (∀ j : Nat, j < c → nI j ≠ v3) → ∃ yv zv, f_X10_seekResidue_6 N K cu v3 (nI c) (lI y) (lI H) (lI W) (lI S) (lI one.1) (lI one.2) oa ob (lI t.1) (lI t.2) = some yv ∧ f_X11_looksFor_39 N k' cu v3 v4 (iI (W * t.2 + t.1)) (lI one2.1) (lI one2.2) (nI c) (nI (y * W)) ra rb (lI W) (lI H) (lI S) = some zv ∧ f_X10_foundAnswer yv.1 v3 v4 yv.2.1 yv.2.2 = some zv.1 := by
  obtain ⟨n1, n2, n3, n4⟩ := bx_nat h hb
  have hW : W ≤ 2000 := by
    have : W * 1 ≤ W * H := Nat.mul_le_mul_left W n1
    omega
  intro my
  induction my with
  | zero =>
    intro y hy K c oa ob ra rb k' hK hc hk hv
    obtain rfl : y = H := by omega
    obtain ⟨K, rfl⟩ : ∃ K', K = K' + 1 := ⟨K - 1, by omega⟩
    have eWH := Nat.mul_comm W y
    obtain ⟨k', rfl⟩ : ∃ k'', k' = k'' + 1 := ⟨k' - 1, by omega⟩
    have ecl : f_X11_classesNow (lI W) (lI y) = some (nI (W * y)) := by unfold f_X11_classesNow; rw [lI_mul, lI_i, iI_nI, Int.natCast_mul]
    rw [f_X10_seekResidue_6, if_pos (by rw [lI_le ⟨by omega, by omega⟩ ⟨by omega, by omega⟩]; exact Int.le_refl _), f_X11_looksFor_39, ecl, Option.bind_some, if_pos (nI_le (by omega) (by omega))]
    unfold f_X10_foundAnswer
    rcases hv3 with rfl | ⟨k, hk2, rfl⟩
    · rw [if_pos rfl]; exact ⟨_, _, rfl, rfl, by rw [if_pos rfl]⟩
    · have : ¬ k < c := fun z => hv k z rfl
      rw [if_neg (nm1 hk2)]
      refine ⟨_, _, rfl, rfl, ?_⟩
      rw [if_neg (nm1 hk2), if_neg (nI_nlt (by omega) (by omega))]
  | succ my ih =>
    intro y hy K c oa ob ra rb k' hK hc hk hv
    obtain ⟨K, rfl⟩ : ∃ K', K = K' + 1 := ⟨K - 1, by omega⟩
    rw [f_X10_seekResidue_6, if_neg (by rw [lI_le ⟨by omega, by omega⟩ ⟨by omega, by omega⟩]; omega)]
    exact sk_row (N := N) (K := K) h hb cu v3 v4 hcu hv3 h12 ho ht (show y < H by omega) (fun c oa ob ra rb k' p1 p2 p3 => ih (y + 1) (by omega) K c oa ob ra rb k' (by omega) p1 p2 p3) W 0 (by omega) N c oa ob ra rb k' (by omega) (by omega) (by omega) hv
end SEEK
/-- few classes, on both sides -/
theorem few_cases {N : Nat} (hN : 1048576 ≤ N) {full : Int32} {pA pB has fst snd : Nat → Int32} {dr : Nat → Option (Int × Int)} (hD : kRow full pA pB has fst snd 0 dr) {j : Nat} (hj : j < 8) {c d : Int} (e : dr j = some (c, d)) {L : Int} (hL : 1 ≤ L ∧ L ≤ 2000) (ms mw mt : Int64) : ((∃ y, f_X4_openFew N (iI L) ms mw mt (lI c) (lI d) = some (0, y)) ∧ f_X11_isGreat (nI j) (iI L) fst snd = some 1) ∨ ∃ (H W : Nat) (S : Int), en (c, d) ≤ L ∧ (c, d) ≠ (0, 0) ∧ bx (c, d) (H : Int) (W : Int) S ∧ f_X4_openFew N (iI L) ms mw mt (lI c) (lI d) = some (1, lI H, lI W, lI S) ∧ f_X11_isGreat (nI j) (iI L) fst snd = some 0 ∧ f_X11_laysBox N (lI c) (lI d) = some (lI W, lI H, lI S) := by
  obtain ⟨hn, -, -, f1, g1⟩ := hD.num hj e
  have hx := hn.eb
  have hx' : nrm c d ≤ 300000000 := hx
  have n0 := nrm_nn c d
  have bn : b64 (nrm c d) := ⟨by omega, by omega⟩
  have bL : b64 L := ⟨by omega, by omega⟩
  have eL : (iI L).toInt64 = lI L := iI_l ⟨by omega, by omega⟩
  have e1 : (lI L < lI (nrm c d)) = (L < nrm c d) := propext (lI_lt bL bn)
  have e2 : (lI (nrm c d) ≤ lI L) = (nrm c d ≤ L) := propext (lI_le bn bL)
  unfold f_X4_openFew f_X11_isGreat
  simp only [s_norm, s_normX, Option.bind_some, eL, e1, e2, s_isNothing hD hj e, dr_cl hj, dr_n0 hj, dr_8 hj, or_self, if_false, f1, g1, iI_l hn.b32.1, iI_l hn.b32.2]
  by_cases c0 : c = 0 ∧ d = 0
  · left
    obtain ⟨rfl, rfl⟩ := c0
    have z : nrm 0 0 = 0 := rfl
    have : f_X4_open N ms mw mt (lI 0) (lI 0) = some (0, ms, mw, mt) := s_open0 hN _ _ _
    rw [if_neg (by rw [z]; omega), this, Option.bind_some, if_pos rfl, if_pos (show (0 : Int) = 0 ∧ (0 : Int) = 0 from ⟨rfl, rfl⟩), if_neg (by decide)]
    exact ⟨⟨_, rfl⟩, rfl⟩
  · rw [if_neg c0, if_pos rfl]
    by_cases cL : L < nrm c d
    · left
      rw [if_pos cL, if_neg (by omega)]
      exact ⟨⟨_, rfl⟩, rfl⟩
    · right
      have h0 : (c, d) ≠ (0, 0) := fun z => c0 ⟨congrArg Prod.fst z, congrArg Prod.snd z⟩
      obtain ⟨H, W, S, k1, k2, k3⟩ := s_box hN hx h0
      have hh := bx_bd k1 hx
      obtain ⟨H, rfl⟩ := Int.eq_ofNat_of_zero_le (show 0 ≤ H by omega)
      obtain ⟨W, rfl⟩ := Int.eq_ofNat_of_zero_le (show 0 ≤ W by omega)
      refine ⟨H, W, S, ?_, h0, k1, ?_, ?_, k3⟩
      · show nrm c d ≤ L; omega
      · rw [if_neg cL, k2, Option.bind_some, if_neg j1]
      · rw [if_pos (by omega)]
theorem s_isPartOf (k w : Int32) : f_X10_isPartOf k w = some (if k = -1 ∨ w = 0 ∨ w = 1 then 1 else 0) := by
  unfold f_X10_isPartOf
  by_cases c1 : k = -1
  · rw [if_pos c1, if_pos (Or.inl c1)]
  · rw [if_neg c1]
    by_cases c2 : w = 0
    · rw [if_pos c2, if_pos (Or.inr (Or.inl c2))]
    · rw [if_neg c2]
      by_cases c3 : w = 1
      · rw [if_pos c3, if_pos (Or.inr (Or.inr c3))]
      · rw [if_neg c3, if_neg (by rintro (h | h | h) <;> contradiction)]
theorem in01 (w : Int32) : f_X11_in w.toInt64 0 1 = some (if w = 0 ∨ w = 1 then 1 else 0) := by
  obtain ⟨w, hw, rfl⟩ := iI_of w
  have : f_X11_in (iI w).toInt64 0 1 = some (if 0 ≤ w ∧ w ≤ 1 then 1 else 0) := s_in32 hw (l := 0) (h := 1) ⟨by decide, by decide⟩ ⟨by decide, by decide⟩
  rw [this]
  have q1 : iI w = 1 ↔ w = 1 := iI_eq hw (b := 1) ⟨by decide, by decide⟩
  simp only [iI_0 hw, q1]
  by_cases c : w = 0 ∨ w = 1
  · rw [if_pos (by omega), if_pos c]
  · rw [if_neg (by omega), if_neg c]
theorem m1_cases {v : Int32} (h : ¬ v < -1) : (v = -1 ∧ v < 0) ∨ (v ≠ -1 ∧ ¬ v < 0 ∧ ∃ k : Nat, k < 2147483648 ∧ v = nI k) := by
  by_cases c : v = -1
  · left; exact ⟨c, by rw [c]; decide⟩
  · right
    obtain ⟨j, hj, rfl⟩ := nI_ofm1 h c
    exact ⟨c, nI_pos hj, j, hj, rfl⟩
theorem q_root (N : Nat) (hN : 1048576 ≤ N) (v1 v2 v3 v4 : Int32) (m_drawers_full m_drawers_kept : Int32) (m_drawers_partA m_drawers_partB m_drawers_keptA m_drawers_keptB m_drawers_keptFull : Nat → Int32) (m_tape_size : Int32) (m_tape_bytes : Nat → Int32) (m_modulus_step m_modulus_width m_modulus_slant : Int64) (m_primes_count : Int32) (m_primes_primeA m_primes_primeB : Nat → Int32) (m_one_a m_one_b m_two_a m_two_b m_out_a m_out_b : Int64) (m_taped m_states : Int32) (m_ra m_rb m_boxWide m_boxHigh m_boxStep : Int64) (m_listed : Int32) (m_tape m_has m_keptHas m_first m_second m_keptFirst m_keptSecond m_la0 m_lb0 : Nat → Int32) (hR : kR m_drawers_full m_drawers_kept m_drawers_partA m_drawers_partB m_drawers_keptA m_drawers_keptB m_drawers_keptFull m_tape_size m_tape_bytes m_primes_count m_primes_primeA m_primes_primeB m_taped m_tape m_has m_keptHas m_first m_second m_keptFirst m_keptSecond m_states m_la0 m_lb0 m_listed) : ∃ (y : Int32 × Int64 × Int64 × Int64 × Int64 × Int64 × Int64 × Int64 × Int64 × Int64) (z : Int32 × Int64 × Int64 × Int64 × Int64 × Int64), f_X10_root N v1 v2 v3 v4 m_drawers_full m_drawers_partA m_drawers_partB m_modulus_step m_modulus_width m_modulus_slant m_one_a m_one_b m_two_a m_two_b m_out_a m_out_b = some y ∧ f_X11_root N v1 v2 v3 v4 m_ra m_rb m_boxWide m_boxHigh m_boxStep m_has m_first m_second = some z ∧ y.1 = z.1 ∧ kR m_drawers_full m_drawers_kept m_drawers_partA m_drawers_partB m_drawers_keptA m_drawers_keptB m_drawers_keptFull m_tape_size m_tape_bytes m_primes_count m_primes_primeA m_primes_primeB m_taped m_tape m_has m_keptHas m_first m_second m_keptFirst m_keptSecond m_states m_la0 m_lb0 m_listed := by
  have hR0 := hR
  obtain ⟨⟨dr, hD⟩, hK, hT, hP⟩ := hR
  unfold f_X10_root f_X11_root
  simp only [s_isPartOf, in01, Option.bind_some]
  by_cases ck : v3 < -1
  · rw [if_pos ck]
    rcases dr_cases v1 with h | ⟨i, hi, rfl⟩
    · simp only [(dr_out h).2, Option.bind_some, z00, if_true]
      exact ⟨_, _, rfl, rfl, rfl, hR0⟩
    · rcases dr_cases v2 with h | ⟨j, hj, rfl⟩
      · simp only [(dr_in hi).2, (dr_out h).2, Option.bind_some, z00, z10, if_true, if_false]
        exact ⟨_, _, rfl, rfl, rfl, hR0⟩
      · simp only [(dr_in hi).2, (dr_in hj).2, Option.bind_some, z10, if_false, ck, if_true]
        exact ⟨_, _, rfl, rfl, rfl, hR0⟩
  · rw [if_neg ck]
    have hv3 : v3 = -1 ∨ ∃ k : Nat, k < 2147483648 ∧ v3 = nI k := by
      rcases m1_cases ck with h | h
      · exact Or.inl h.1
      · exact Or.inr h.2.2
    by_cases cp : v3 = -1 ∨ v4 = 0 ∨ v4 = 1
    · have hg : ∀ {α : Type} {P R : Option α}, (if v3 < 0 then P else if (if v4 = 0 ∨ v4 = 1 then (1 : Int32) else 0) = 0 then R else P) = P := by
        intro α P R
        rcases m1_cases ck with h | h
        · rw [if_pos h.2]
        · have : v4 = 0 ∨ v4 = 1 := by
            rcases cp with c | c
            · exact absurd c h.1
            · exact c
          rw [if_neg h.2.1, if_pos this, if_neg (by decide)]
      simp only [cp, if_true, z10, if_false, hg, ck]
      rcases dr_two dr v1 v2 with h | ⟨i, j, hi, hj, rfl, rfl, h | ⟨a, b, c, d, e1, e2⟩⟩
      · rw [s_two_out h]
        simp only [Option.bind_some, zm1, if_false]
        rcases s_both_out h with h | ⟨h, h'⟩
        · simp only [h, Option.bind_some, z00, if_true]
          exact ⟨_, _, rfl, rfl, rfl, hR0⟩
        · simp only [h, h', Option.bind_some, z00, if_true, z10, if_false]
          exact ⟨_, _, rfl, rfl, rfl, hR0⟩
      · unfold f_X11_root_36
        rw [s_two_none hD hi hj h, s_hasBoth hD hi hj, isome_and h]
        simp only [Option.bind_some, zm2, if_false, (dr_in hi).2, (dr_in hj).2, z10, z00, if_true, Bool.false_eq_true]
        exact ⟨_, _, rfl, rfl, rfl, hR0⟩
      · obtain ⟨hn1, -, -, f1, g1⟩ := hD.num hi e1
        obtain ⟨hn2, -, -, f2, g2⟩ := hD.num hj e2
        unfold f_X11_root_36
        rw [s_two hD hi hj e1 e2, s_hasBoth hD hi hj, isome_and1 e1 e2]
        rcases few_cases hN hD hj e2 (L := 2000) ⟨by decide, by decide⟩ m_modulus_step m_modulus_width m_modulus_slant with ⟨⟨y, k1⟩, k2⟩ | ⟨H, W, S, q1, q2, hB, k1, k2, k3⟩
        · have k1' : f_X4_openFew N 2000 m_modulus_step m_modulus_width m_modulus_slant (lI c) (lI d) = some (0, y) := k1
          have k2' : f_X11_isGreat (nI j) 2000 m_first m_second = some 1 := k2
          simp only [Option.bind_some, (dr_in hi).2, (dr_in hj).2, z10, z00, if_true, if_false, k1', k2']
          exact ⟨_, _, rfl, rfl, rfl, hR0⟩
        · have k1' : f_X4_openFew N 2000 m_modulus_step m_modulus_width m_modulus_slant (lI c) (lI d) = some (1, lI H, lI W, lI S) := k1
          have k2' : f_X11_isGreat (nI j) 2000 m_first m_second = some 0 := k2
          have hbd := eb_bd hn1.eb
          have ok1 := small_ok hB hn2.eb (x := a) (y := b) ⟨by omega, by omega⟩ ⟨by omega, by omega⟩
          have ok2 := small_ok hB hn2.eb (x := 0) (y := 0) ⟨by omega, by omega⟩ ⟨by omega, by omega⟩
          have t2 := s_boxes hB hn2.eb (x := 0) (y := 0) ok2.1 ok2.2.2
          rw [← l0] at t2
          have hr1 := rs_isR hB (a, b)
          have e0 : rs (H : Int) (W : Int) S (0, 0) = (0, 0) := (rs_0 hB).mpr (ed_zero _)
          simp only [Option.bind_some, (dr_in hi).2, (dr_in hj).2, z10, z00, if_true, if_false, k1', k2', dr_cl hi, dr_n0 hi, dr_8 hi, dr_cl hj, dr_n0 hj, dr_8 hj, or_self, f1, f2, g1, g2, iI_l hn1.b32.1, iI_l hn1.b32.2, iI_l hn2.b32.1, iI_l hn2.b32.2, k3, s_reduce hB hn2.eb ok1.1 ok1.2.1, f_X11_looksFor, s_boxes hB hn2.eb ok1.1 ok1.2.2, t2, s_place (r := rs H W S (a, b)) _ _ rfl rfl]
          rw [e0]
          have hr0 : isR (H : Int) (W : Int) (0, 0) := by rw [← e0]; exact rs_isR hB _
          obtain ⟨n1, n2, n3, n4⟩ := bx_nat hB q1
          have hWH : W * 1 ≤ W * H := Nat.mul_le_mul_left W n1
          obtain ⟨yv, zv, r1, r2, r3⟩ := sk_all hN hB q1 1 v3 v4 (Or.inr rfl) hv3 (one2 := (0, 0)) (fun z => absurd z (by decide)) hr1 hr1 H 0 (by omega) N 0 m_out_a m_out_b (lI 0) (lI 0) N (by omega) (by omega) (by omega) (fun j p => absurd p (by omega))
          rw [Nat.zero_mul] at r2
          unfold f_X10_seekResidue
          have r1' : f_X10_seekResidue_6 N N 1 v3 0 0 (lI H) (lI W) (lI S) (lI (rs H W S (a, b)).1) (lI (rs H W S (a, b)).2) m_out_a m_out_b (lI (rs H W S (a, b)).1) (lI (rs H W S (a, b)).2) = some yv := r1
          have r2' : f_X11_looksFor_39 N N 1 v3 v4 (iI (W * (rs H W S (a, b)).2 + (rs H W S (a, b)).1)) (lI 0) (lI 0) 0 0 (lI 0) (lI 0) (lI W) (lI H) (lI S) = some zv := r2
          rw [r1', r2', Option.bind_some, Option.bind_some, r3, Option.bind_some]
          exact ⟨_, _, rfl, rfl, rfl, hR0⟩
    · have cp1 : ¬ v3 = -1 := fun z => cp (Or.inl z)
      have cp2 : ¬ (v4 = 0 ∨ v4 = 1) := fun z => cp (Or.inr z)
      have ck2 : ¬ v3 < 0 := by
        rcases m1_cases ck with h | h
        · exact absurd h.1 cp1
        · exact h.2.1
      simp only [cp1, cp2, or_self, if_false, z00, if_true, ck2, ck]
      rcases dr_cases v1 with h | ⟨i, hi, rfl⟩
      · simp only [(dr_out h).2, Option.bind_some, z00, if_true]
        exact ⟨_, _, rfl, rfl, rfl, hR0⟩
      · rcases dr_cases v2 with h | ⟨j, hj, rfl⟩
        · simp only [(dr_in hi).2, (dr_out h).2, Option.bind_some, z00, z10, if_true, if_false]
          exact ⟨_, _, rfl, rfl, rfl, hR0⟩
        · simp only [(dr_in hi).2, (dr_in hj).2, Option.bind_some, z10, if_false]
          exact ⟨_, _, rfl, rfl, rfl, hR0⟩
