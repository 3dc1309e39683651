/-! ===== classes by a number: boxes of residues ===== -/
theorem nl63 {c : Nat} (h : c < 63) : ¬ (63 : Int32) ≤ nI c := nI_ge (b := 63) h (by decide)
theorem nl100 {c : Nat} (h : c < 100) : ¬ (100 : Int32) ≤ nI c := nI_ge (b := 100) h (by decide)
theorem nl100k {c : Nat} (h : c < 100000) : ¬ (100000 : Int32) ≤ nI c := nI_ge (b := 100000) h (by decide)
def bx (m : Int × Int) (H W S : Int) : Prop := 1 ≤ H ∧ H ≤ W ∧ H * W = en m ∧ 0 ≤ S ∧ S < W ∧ ed m (S, H) ∧ ed m (W, 0) ∧ ∀ x y : Int, ed m (x, y) → H ∣ y ∧ (y = 0 → W ∣ x)
def rs (H W S : Int) (z : Int × Int) : Int × Int := ((z.1 - z.2 / H * S) % W, z.2 % H)
theorem ed_W {a b g W : Int} (hg : 1 ≤ g) (h1 : g ∣ a) (h2 : g ∣ b) (hW : g * W = nrm a b) : ed (a, b) (W, 0) := by
  obtain ⟨a', rfl⟩ := h1
  obtain ⟨b', rfl⟩ := h2
  have hi : nrm (g * a') (g * b') = g * (g * nrm a' b') := by unfold nrm; grind
  have hW' : W = g * nrm a' b' := Int.eq_of_mul_eq_mul_left (by omega) (hW.trans hi)
  refine ⟨(a' - b', -b'), ?_⟩
  rw [hW']; unfold em nrm
  exact e_ext (by simp only []; grind) (by simp only []; grind)
theorem bx_mk {a b g W S : Int} (hg : 1 ≤ g) (h1 : g ∣ a) (h2 : g ∣ b) (hW : g * W = nrm a b) (hS : ed (a, b) (S, g)) (h0 : 0 ≤ S) (h3 : S < W) : bx (a, b) g W S := by
  have hd := ed_W hg h1 h2 hW
  obtain ⟨a', rfl⟩ := h1
  obtain ⟨b', rfl⟩ := h2
  have hi : nrm (g * a') (g * b') = g * (g * nrm a' b') := by unfold nrm; grind
  have hW' : W = g * nrm a' b' := Int.eq_of_mul_eq_mul_left (by omega) (hW.trans hi)
  have hn : 1 ≤ nrm a' b' := by
    have := nrm_nn a' b'
    by_cases c : nrm a' b' = 0
    · rw [c] at hW'; omega
    · omega
  have hle : g ≤ W := by
    rw [hW']
    have := Int.mul_le_mul_of_nonneg_left hn (show 0 ≤ g by omega)
    omega
  refine ⟨hg, hle, hW, h0, h3, hS, hd, ?_⟩
  rintro x y ⟨⟨p, q⟩, e⟩
  obtain ⟨⟨u, v⟩, e'⟩ := hS
  have ex : x = g * a' * p - g * b' * q := congrArg Prod.fst e
  have ey : y = g * a' * q + g * b' * p - g * b' * q := congrArg Prod.snd e
  have eg : g = g * a' * v + g * b' * u - g * b' * v := congrArg Prod.snd e'
  have e1 : a' * v + b' * u - b' * v = 1 := by
    have : g * (a' * v + b' * u - b' * v) = g * 1 := by grind
    exact Int.eq_of_mul_eq_mul_left (by omega) this
  constructor
  · exact ⟨a' * q + b' * p - b' * q, by rw [ey]; grind⟩
  · intro hy
    have e2 : a' * q + b' * p - b' * q = 0 := by
      have : g * (a' * q + b' * p - b' * q) = g * 0 := by grind
      exact Int.eq_of_mul_eq_mul_left (by omega) this
    obtain ⟨t, ht⟩ : ∃ t, t = v * p - u * q := ⟨_, rfl⟩
    have hp : p = (a' - b') * t := by rw [ht]; grind
    have hq : q = -b' * t := by rw [ht]; grind
    refine ⟨t, ?_⟩
    rw [ex, hW', hp, hq]; unfold nrm; grind
section RS
variable {m : Int × Int} {H W S : Int}
theorem bx_bd (h : bx m H W S) (hb : eb m) : 1 ≤ H ∧ H ≤ W ∧ W ≤ 300000000 ∧ 0 ≤ S ∧ S < W := by
  obtain ⟨h1, h2, h3, h4, h5, -⟩ := h
  have hb' : en m ≤ 300000000 := hb
  have := Int.mul_le_mul_of_nonneg_right h1 (show 0 ≤ W by omega)
  refine ⟨h1, h2, by omega, h4, h5⟩
theorem rs_bd (h : bx m H W S) (z : Int × Int) : 0 ≤ (rs H W S z).1 ∧ (rs H W S z).1 < W ∧ 0 ≤ (rs H W S z).2 ∧ (rs H W S z).2 < H := by
  obtain ⟨h1, h2, -⟩ := h
  unfold rs
  exact ⟨Int.emod_nonneg _ (by omega), Int.emod_lt_of_pos _ (by omega), Int.emod_nonneg _ (by omega), Int.emod_lt_of_pos _ (by omega)⟩
theorem rs_ed (h : bx m H W S) (z : Int × Int) : ed m (esb z (rs H W S z)) := by
  obtain ⟨h1, h2, h3, h4, h5, h6, h7, -⟩ := h
  have e1 := Int.emod_def (z.1 - z.2 / H * S) W
  have e2 := Int.emod_def z.2 H
  have e : esb z (rs H W S z) = ead (em (S, H) (z.2 / H, 0)) (em (W, 0) ((z.1 - z.2 / H * S) / W, 0)) := by
    unfold esb rs ead em
    exact e_ext (by simp only [e1]; grind) (by simp only [e2]; grind)
  rw [e]; exact ed_add (ed_mulr h6 _) (ed_mulr h7 _)
theorem rs_of_ed (h : bx m H W S) {z z' : Int × Int} (hd : ed m (esb z z')) : rs H W S z = rs H W S z' := by
  obtain ⟨h1, h2, h3, h4, h5, h6, h7, h8⟩ := h
  obtain ⟨⟨t, ht⟩, -⟩ := h8 (z.1 - z'.1) (z.2 - z'.2) hd
  have ey : z.2 = z'.2 + H * t := by omega
  have e1 : z.2 % H = z'.2 % H := by rw [ey, Int.add_mul_emod_self_left]
  have e2 : z.2 / H = z'.2 / H + t := by rw [ey, Int.add_mul_ediv_left _ _ (by omega)]
  have hd2 : ed m (esb (esb z z') (em (S, H) (t, 0))) := ed_sub hd (ed_mulr h6 _)
  have e0 : esb (esb z z') (em (S, H) (t, 0)) = (z.1 - z'.1 - S * t, 0) := by
    unfold esb em
    exact e_ext (by simp only []; grind) (by simp only []; grind)
  rw [e0] at hd2
  obtain ⟨k, hk⟩ := (h8 _ _ hd2).2 rfl
  have e3 : z.1 - z.2 / H * S = z'.1 - z'.2 / H * S + W * k := by rw [e2]; grind
  unfold rs
  rw [e1, e3, Int.add_mul_emod_self_left]
theorem rs_iff (h : bx m H W S) {z z' : Int × Int} : rs H W S z = rs H W S z' ↔ ed m (esb z z') := by
  refine ⟨fun e => ?_, rs_of_ed h⟩
  have h1 := ed_sub (rs_ed h z) (rs_ed h z')
  rw [e] at h1
  have e0 : esb (esb z (rs H W S z')) (esb z' (rs H W S z')) = esb z z' := by
    unfold esb
    exact e_ext (by simp only []; omega) (by simp only []; omega)
  rwa [e0] at h1
theorem rs_fix {z : Int × Int} (h1 : 0 ≤ z.1) (h2 : z.1 < W) (h3 : 0 ≤ z.2) (h4 : z.2 < H) : rs H W S z = z := by
  unfold rs
  rw [Int.ediv_eq_zero_of_lt h3 h4, Int.emod_eq_of_lt h3 h4, Int.zero_mul, Int.sub_zero, Int.emod_eq_of_lt h1 h2]
theorem rs_rs (h : bx m H W S) (z : Int × Int) : rs H W S (rs H W S z) = rs H W S z := by
  have := rs_bd h z
  exact rs_fix this.1 this.2.1 this.2.2.1 this.2.2.2
theorem em_esb (x y z : Int × Int) : esb (em x z) (em y z) = em (esb x y) z := by
  unfold esb em
  exact e_ext (by simp only []; grind) (by simp only []; grind)
theorem rs_mul (h : bx m H W S) (x y : Int × Int) : rs H W S (em (rs H W S x) y) = rs H W S (em x y) := by
  apply rs_of_ed h
  rw [em_esb]
  exact ed_mulr (ed_swap (rs_ed h x)) y
theorem rs_mul' (h : bx m H W S) (x y : Int × Int) : rs H W S (em x (rs H W S y)) = rs H W S (em x y) := by
  rw [em_comm, rs_mul h, em_comm]
theorem rs_0 (h : bx m H W S) {z : Int × Int} : rs H W S z = (0, 0) ↔ ed m z := by
  have e : rs H W S (0, 0) = (0, 0) := rs_fix (z := (0, 0)) (Int.le_refl 0) (by have := h.1; have := h.2.1; show (0 : Int) < W; omega) (Int.le_refl 0) (by have := h.1; show (0 : Int) < H; omega)
  have e0 : esb z (0, 0) = z := by unfold esb; exact e_ext (Int.sub_zero _) (Int.sub_zero _)
  have := rs_iff h (z := z) (z' := (0, 0))
  rw [e, e0] at this
  exact this
theorem bx_uniq {H' W' S' : Int} (h : bx m H W S) (h' : bx m H' W' S') : H = H' ∧ W = W' ∧ S = S' := by
  obtain ⟨h1, h2, h3, h4, h5, h6, h7, h8⟩ := h
  obtain ⟨k1, k2, k3, k4, k5, k6, k7, k8⟩ := h'
  have eH : H = H' := Int.dvd_antisymm (by omega) (by omega) (h8 _ _ k6).1 (k8 _ _ h6).1
  subst eH
  have eW : W = W' := Int.eq_of_mul_eq_mul_left (show H ≠ 0 by omega) (h3.trans k3.symm)
  subst eW
  refine ⟨rfl, rfl, ?_⟩
  have hd := ed_sub h6 k6
  have e0 : esb (S, H) (S', H) = (S - S', 0) := by unfold esb; exact e_ext rfl (Int.sub_self _)
  rw [e0] at hd
  obtain ⟨k, hk⟩ := (h8 _ _ hd).2 rfl
  by_cases c : k = 0
  · rw [c, Int.mul_zero] at hk; omega
  · exfalso
    rcases Int.lt_or_gt_of_ne c with c | c
    · have := Int.mul_le_mul_of_nonneg_left (show k ≤ -1 by omega) (show 0 ≤ W by omega)
      omega
    · have := Int.mul_le_mul_of_nonneg_left (show 1 ≤ k by omega) (show 0 ≤ W by omega)
      omega
end RS
theorem ediv_bd {y H M : Int} (hH : 1 ≤ H) (h1 : -M ≤ y) (h2 : y ≤ M) (hM : 0 ≤ M) : -M ≤ y / H ∧ y / H ≤ M := by
  constructor
  · refine Int.le_ediv_of_mul_le (by omega) ?_
    have := Int.mul_le_mul_of_nonneg_left hH hM
    rw [Int.neg_mul]; omega
  · refine Int.ediv_le_of_le_mul (by omega) ?_
    have := Int.mul_le_mul_of_nonneg_left hH hM
    omega
theorem b64_ediv {y H : Int} (hH : 1 ≤ H) (h : b64 y) : b64 (y / H) := by
  by_cases c : 0 ≤ y
  · have h1 := Int.ediv_nonneg c (show 0 ≤ H by omega)
    have h2 := Int.ediv_le_self H c
    have := h.2
    exact ⟨by omega, by omega⟩
  · have := ediv_bd (y := y) (M := -y) hH (by omega) (by omega) (by omega)
    have := h.1; have := h.2
    have h3 : y / H < 0 := Int.ediv_neg_of_neg_of_pos (by omega) (by omega)
    exact ⟨by omega, by omega⟩
section RS2
variable {m : Int × Int} {H W S : Int}
theorem bx_64 (h : bx m H W S) (hb : eb m) : b64 H ∧ b64 W ∧ b64 S := by
  have := bx_bd h hb
  exact ⟨⟨by omega, by omega⟩, ⟨by omega, by omega⟩, ⟨by omega, by omega⟩⟩
theorem s_reduce (h : bx m H W S) (hb : eb m) {x y : Int} (hy : b64 y) (hx : b64 (x - y / H * S)) : f_X4_reduce (lI H) (lI W) (lI S) (lI x) (lI y) = some (lI (rs H W S (x, y)).1, lI (rs H W S (x, y)).2) := by
  have hh := bx_bd h hb
  obtain ⟨b1, b2, b3⟩ := bx_64 h hb
  have e : y - y / H * H = y % H := by rw [Int.emod_def, Int.mul_comm]
  unfold f_X4_reduce
  rw [if_neg (by rw [l1, lI_lt b1 ⟨by decide, by decide⟩]; omega), if_pos (by rw [l1, lI_le ⟨by decide, by decide⟩ b2]; omega), s_floorDiv hy (by omega) b1, Option.bind_some, lI_mul, lI_sub, s_floorMod hx (by omega) b2, Option.bind_some, lI_mul, lI_sub, e]
  rfl
theorem s_boxes (h : bx m H W S) (hb : eb m) {x y : Int} (hy : b64 y) (hx : b64 (x - y / H % W * S)) : f_X11_boxes (lI x) (lI y) (lI W) (lI H) (lI S) = some (lI (rs H W S (x, y)).1, lI (rs H W S (x, y)).2) := by
  have hh := bx_bd h hb
  obtain ⟨b1, b2, b3⟩ := bx_64 h hb
  have e : (x - y / H % W * S) % W = (x - y / H * S) % W := by
    have e1 := Int.emod_def (y / H) W
    have e2 : x - y / H % W * S = x - y / H * S + W * (y / H / W * S) := by rw [e1]; grind
    rw [e2, Int.add_mul_emod_self_left]
  unfold f_X11_boxes f_X11_sets
  rw [s_rest hy (by omega) b1, Option.bind_some, s_down hy (by omega) b1, Option.bind_some, s_rest (b64_ediv (by omega) hy) (by omega) b2, Option.bind_some, lI_mul, lI_sub, s_rest hx (by omega) b2, Option.bind_some, e]
  rfl
theorem small_ok (h : bx m H W S) (hb : eb m) {x y : Int} (hx : -10000000000 ≤ x ∧ x ≤ 10000000000) (hy : -10000000000 ≤ y ∧ y ≤ 10000000000) : b64 y ∧ b64 (x - y / H * S) ∧ b64 (x - y / H % W * S) := by
  obtain ⟨h1, h2, h3, h4, h5⟩ := bx_bd h hb
  have h6 := ediv_bd h1 hy.1 hy.2 (by decide)
  have h7 := mul_bd h6.1 h6.2 (show -300000000 ≤ S by omega) (show S ≤ 300000000 by omega)
  have h8 := Int.emod_nonneg (y / H) (show W ≠ 0 by omega)
  have h9 := Int.emod_lt_of_pos (y / H) (show 0 < W by omega)
  have h10 := mul_bd (show -300000000 ≤ y / H % W by omega) (show y / H % W ≤ 300000000 by omega) (show -300000000 ≤ S by omega) (show S ≤ 300000000 by omega)
  exact ⟨⟨by omega, by omega⟩, ⟨by omega, by omega⟩, ⟨by omega, by omega⟩⟩
/-- a residue -/
def isR (H W : Int) (z : Int × Int) : Prop := 0 ≤ z.1 ∧ z.1 < W ∧ 0 ≤ z.2 ∧ z.2 < H
theorem mul_ok (h : bx m H W S) (hb : eb m) {r s : Int × Int} (hr : isR H W r) (hs : isR H W s) : b64 (em r s).2 ∧ b64 ((em r s).1 - (em r s).2 / H * S) ∧ b64 ((em r s).1 - (em r s).2 / H % W * S) := by
  obtain ⟨h1, h2, h3, h4, h5⟩ := bx_bd h hb
  obtain ⟨r1, r2, r3, r4⟩ := hr
  obtain ⟨s1, s2, s3, s4⟩ := hs
  have p1 := Int.mul_nonneg r1 s1
  have p2 := Int.mul_nonneg r1 s3
  have p3 := Int.mul_nonneg r3 s1
  have p4 := Int.mul_nonneg r3 s3
  have q1 : r.1 * s.1 ≤ 300000000 * 300000000 := Int.mul_le_mul (by omega) (by omega) s1 (by decide)
  have q2 : r.1 * s.2 ≤ W * H := Int.mul_le_mul (by omega) (by omega) s3 (by omega)
  have q3 : r.2 * s.1 ≤ H * W := Int.mul_le_mul (by omega) (by omega) s1 (by omega)
  have q4 : r.2 * s.2 ≤ W * H := Int.mul_le_mul (by omega) (by omega) s3 (by omega)
  have q5 : H * W ≤ 300000000 * 300000000 := Int.mul_le_mul (by omega) (by omega) (by omega) (by decide)
  have q6 := Int.mul_comm H W
  have e2 : (em r s).2 = r.1 * s.2 + r.2 * s.1 - r.2 * s.2 := rfl
  have e1 : (em r s).1 = r.1 * s.1 - r.2 * s.2 := rfl
  have u1 : (em r s).2 / H ≤ 2 * W := Int.ediv_le_of_le_mul (by omega) (by rw [Int.mul_assoc]; omega)
  have u2 : -W ≤ (em r s).2 / H := Int.le_ediv_of_mul_le (by omega) (by rw [Int.neg_mul]; omega)
  have h7 := mul_bd (show -600000000 ≤ (em r s).2 / H by omega) (show (em r s).2 / H ≤ 600000000 by omega) (show -300000000 ≤ S by omega) (show S ≤ 300000000 by omega)
  have h8 := Int.emod_nonneg ((em r s).2 / H) (show W ≠ 0 by omega)
  have h9 := Int.emod_lt_of_pos ((em r s).2 / H) (show 0 < W by omega)
  have h10 := mul_bd (show -300000000 ≤ (em r s).2 / H % W by omega) (show (em r s).2 / H % W ≤ 300000000 by omega) (show -300000000 ≤ S by omega) (show S ≤ 300000000 by omega)
  exact ⟨⟨by omega, by omega⟩, ⟨by omega, by omega⟩, ⟨by omega, by omega⟩⟩
theorem rs_isR (h : bx m H W S) (z : Int × Int) : isR H W (rs H W S z) := rs_bd h z
theorem s_red_mul (h : bx m H W S) (hb : eb m) {r s : Int × Int} (hr : isR H W r) (hs : isR H W s) : (f_X5_multiply (lI r.1) (lI r.2) (lI s.1) (lI s.2)).bind (fun y => f_X4_reduce (lI H) (lI W) (lI S) y.1 y.2) = some (lI (rs H W S (em r s)).1, lI (rs H W S (em r s)).2) := by
  have k := mul_ok h hb hr hs
  rw [s_multiply, Option.bind_some]
  exact s_reduce h hb k.1 k.2.1
theorem s_timesIn (h : bx m H W S) (hb : eb m) {r s : Int × Int} (hr : isR H W r) (hs : isR H W s) : f_X11_timesIn (lI r.1) (lI r.2) (lI s.1) (lI s.2) (lI W) (lI H) (lI S) = some (lI (rs H W S (em r s)).1, lI (rs H W S (em r s)).2) := by
  have k := mul_ok h hb hr hs
  unfold f_X11_timesIn
  rw [s_times, Option.bind_some, s_boxes h hb k.1 k.2.2, Option.bind_some]
/-- powers -/
def epw (z : Int × Int) : Nat → Int × Int
  | 0 => (1, 0)
  | k + 1 => em (epw z k) z
theorem epw_add (z : Int × Int) (a : Nat) : ∀ b : Nat, epw z (a + b) = em (epw z a) (epw z b)
  | 0 => (em_one' _).symm
  | b + 1 => by rw [← Nat.add_assoc, epw, epw, epw_add z a b, em_assoc]
theorem epw_mulb (x y : Int × Int) : ∀ k : Nat, epw (em x y) k = em (epw x k) (epw y k)
  | 0 => (em_one _).symm
  | k + 1 => by
    rw [epw, epw, epw, epw_mulb x y k, em_assoc, em_assoc, ← em_assoc (epw y k) x y, em_comm (epw y k) x, em_assoc x]
theorem epw_mul (z : Int × Int) (a : Nat) : ∀ b : Nat, epw z (a * b) = epw (epw z a) b
  | 0 => rfl
  | b + 1 => by rw [Nat.mul_succ, epw_add, epw_mul z a b, epw]
theorem epw_2 (z : Int × Int) (k : Nat) : epw (em z z) k = epw z (2 * k) := by
  have e : epw z 2 = em z z := by show em (em (1, 0) z) z = _; rw [em_one]
  rw [← e, ← epw_mul]
theorem epw_1 (z : Int × Int) : epw z 1 = z := em_one z
theorem rs_epw (h : bx m H W S) (z : Int × Int) : ∀ k : Nat, rs H W S (epw (rs H W S z) k) = rs H W S (epw z k)
  | 0 => rfl
  | k + 1 => by rw [epw, epw, ← rs_mul h, rs_epw h z k, rs_mul h, rs_mul' h]
theorem rs_mulpw (h : bx m H W S) (u x : Int × Int) (k : Nat) : rs H W S (em u (epw (rs H W S x) k)) = rs H W S (em u (epw x k)) := by
  rw [← rs_mul' h, rs_epw h, rs_mul' h]
theorem l63 (k : Nat) (hk : k < 2147483648) : lI (k : Int) >>> (((1 : Int32)).toInt64 &&& 63) = lI ((k / 2 : Nat) : Int) ∧ (lI (k : Int) &&& (1 : Int64) = 1 ↔ k % 2 = 1) := by
  constructor
  · apply Int64.toBitVec_inj.mp
    have e : (((1 : Int32)).toInt64 &&& 63) = (1 : Int64) := by decide
    rw [e]
    have e2 : (lI (k : Int)).toBitVec = BitVec.ofNat 64 k := by
      show (Int64.ofInt (k : Int)).toBitVec = _
      rw [Int64.ofInt_eq_ofNat]; rfl
    have e3 : (lI ((k / 2 : Nat) : Int)).toBitVec = BitVec.ofNat 64 (k / 2) := by
      show (Int64.ofInt ((k / 2 : Nat) : Int)).toBitVec = _
      rw [Int64.ofInt_eq_ofNat]; rfl
    rw [Int64.toBitVec_shiftRight, e2, e3]
    have e4 : ((1 : Int64).toBitVec.smod 64) = 1#64 := by decide
    rw [e4]
    apply BitVec.eq_of_toNat_eq
    rw [BitVec.sshiftRight_eq', BitVec.sshiftRight_eq_of_msb_false]
    · rw [BitVec.toNat_ushiftRight, BitVec.toNat_ofNat, BitVec.toNat_ofNat]
      show (k % 2 ^ 64) >>> 1 = (BitVec.ofNat 64 (k / 2)).toNat
      rw [BitVec.toNat_ofNat, Nat.mod_eq_of_lt (by omega), Nat.mod_eq_of_lt (by omega), Nat.shiftRight_eq_div_pow]
    · rw [BitVec.msb_eq_decide, BitVec.toNat_ofNat]
      simp only [decide_eq_false_iff_not]
      omega
  · rw [← Int64.toBitVec_inj]
    have e2 : (lI (k : Int)).toBitVec = BitVec.ofNat 64 k := by
      show (Int64.ofInt (k : Int)).toBitVec = _
      rw [Int64.ofInt_eq_ofNat]; rfl
    rw [Int64.toBitVec_and, e2]
    have e3 : (1 : Int64).toBitVec = 1#64 := rfl
    rw [e3, ← BitVec.toNat_inj, BitVec.toNat_and, BitVec.toNat_ofNat]
    show k % 2 ^ 64 &&& 1 % 2 ^ 64 = 1 % 2 ^ 64 ↔ _
    rw [Nat.mod_eq_of_lt (show k < 2 ^ 64 by omega), show 1 % 2 ^ 64 = 1 from rfl, Nat.and_one_is_mod]
theorem i2_div (k : Nat) (hk : k < 2147483648) : iI (k : Int) / (2 : Int32) = iI ((k / 2 : Nat) : Int) ∧ (iI (k : Int) - iI (k : Int) / (2 : Int32) * (2 : Int32) = (1 : Int32) ↔ k % 2 = 1) := by
  have hb : b32 (k : Int) := ⟨by omega, by omega⟩
  have e : (k : Int).tdiv 2 = ((k / 2 : Nat) : Int) := by rw [Int.tdiv_eq_ediv_of_nonneg (by omega)]; omega
  have e' : (k : Int).tmod 2 = ((k % 2 : Nat) : Int) := by rw [Int.tmod_eq_emod_of_nonneg (by omega)]; omega
  constructor
  · rw [i2, iI_div hb ⟨by decide, by decide⟩, e]
  · rw [i2, iI_rem hb ⟨by decide, by decide⟩, i1, e', iI_eq ⟨by omega, by omega⟩ ⟨by decide, by decide⟩]
    omega
/-- both sides' loops of squares -/
theorem raise_loop (N : Nat) (h : bx m H W S) (hb : eb m) : ∀ (j k : Nat), k < 2 ^ j → j ≤ 31 → ∀ (u x : Int × Int), isR H W u → isR H W x → (∀ c f : Nat, c + j ≤ 62 → j < f → ∃ sq : Int64 × Int64, f_X4_raise_35 N f (lI k) (nI c) (lI H) (lI W) (lI S) (lI x.1) (lI x.2) (lI u.1) (lI u.2) = some (sq.1, sq.2, lI (rs H W S (em u (epw x k))).1, lI (rs H W S (em u (epw x k))).2)) ∧ (∀ f : Nat, j < f → f_X11_powers_40 N f (lI x.1) (lI x.2) (lI u.1) (lI u.2) (iI k) (lI W) (lI H) (lI S) = some (lI (rs H W S (em u (epw x k))).1, lI (rs H W S (em u (epw x k))).2)) := by
  have base : ∀ (u x : Int × Int), isR H W u → isR H W x → (∀ c f : Nat, c ≤ 62 → 0 < f → ∃ sq : Int64 × Int64, f_X4_raise_35 N f (lI 0) (nI c) (lI H) (lI W) (lI S) (lI x.1) (lI x.2) (lI u.1) (lI u.2) = some (sq.1, sq.2, lI (rs H W S (em u (epw x 0))).1, lI (rs H W S (em u (epw x 0))).2)) ∧ (∀ f : Nat, 0 < f → f_X11_powers_40 N f (lI x.1) (lI x.2) (lI u.1) (lI u.2) (iI 0) (lI W) (lI H) (lI S) = some (lI (rs H W S (em u (epw x 0))).1, lI (rs H W S (em u (epw x 0))).2)) := by
    intro u x hu hx
    have e : rs H W S (em u (epw x 0)) = u := by
      show rs H W S (em u (1, 0)) = u
      rw [em_one']; exact rs_fix hu.1 hu.2.1 hu.2.2.1 hu.2.2.2
    rw [e]
    constructor
    · intro c f hc hf
      obtain ⟨f, rfl⟩ : ∃ f', f = f' + 1 := ⟨f - 1, by omega⟩
      refine ⟨(lI x.1, lI x.2), ?_⟩
      rw [f_X4_raise_35, if_neg (nl63 (show c < 63 by omega)), if_pos (by decide)]
    · intro f hf
      obtain ⟨f, rfl⟩ : ∃ f', f = f' + 1 := ⟨f - 1, by omega⟩
      rw [f_X11_powers_40, if_pos (by decide)]
      rfl
  intro j
  induction j with
  | zero =>
    intro k hk hj u x hu hx
    obtain rfl : k = 0 := by have : 2 ^ 0 = 1 := rfl; omega
    have := base u x hu hx
    exact ⟨fun c f hc hf => this.1 c f (by omega) (by omega), fun f hf => this.2 f (by omega)⟩
  | succ j ih =>
    intro k hk hj u x hu hx
    by_cases c0 : k = 0
    · subst c0
      have := base u x hu hx
      exact ⟨fun c f hc hf => this.1 c f (by omega) (by omega), fun f hf => this.2 f (by omega)⟩
    have hk2 : k / 2 < 2 ^ j := by rw [Nat.pow_succ] at hk; omega
    have hk3 : k < 2147483648 := by
      have : 2 ^ (j + 1) ≤ 2 ^ 31 := Nat.pow_le_pow_right (by decide) hj
      omega
    have sx := s_red_mul h hb hx hx
    have sX := s_timesIn h hb hx hx
    have su := s_red_mul h hb hu hx
    have sU := s_timesIn h hb hu hx
    have hx' := rs_isR h (em x x)
    have hu' := rs_isR h (em u x)
    obtain ⟨l1', l2'⟩ := l63 k hk3
    obtain ⟨g1, g2⟩ := i2_div k hk3
    have kp : ¬ lI (k : Int) ≤ (0 : Int64) := by rw [l0, lI_le ⟨by omega, by omega⟩ ⟨by decide, by decide⟩]; omega
    have kp2 : ¬ iI (k : Int) ≤ 0 := by rw [i0, iI_le ⟨by omega, by omega⟩ ⟨by decide, by decide⟩]; omega
    by_cases c1 : k % 2 = 1
    · have e : rs H W S (em (rs H W S (em u x)) (epw (rs H W S (em x x)) (k / 2))) = rs H W S (em u (epw x k)) := by
        rw [rs_mul h, rs_mulpw h, epw_2, em_assoc]
        have : epw x k = em x (epw x (2 * (k / 2))) := by
          have e' : k = 1 + 2 * (k / 2) := by omega
          have := epw_add x 1 (2 * (k / 2))
          rw [← e', epw_1] at this
          exact this
        rw [this]
      have I := ih (k / 2) hk2 (by omega) _ _ hu' hx'
      rw [e] at I
      constructor
      · intro c f hc hf
        obtain ⟨f, rfl⟩ : ∃ f', f = f' + 1 := ⟨f - 1, by omega⟩
        obtain ⟨sq, hsq⟩ := I.1 (c + 1) f (by omega) (by omega)
        refine ⟨sq, ?_⟩
        rw [f_X4_raise_35, if_neg (nl63 (show c < 63 by omega)), if_neg kp, if_pos (l2'.mpr c1)]
        rw [s_multiply, Option.bind_some] at su sx
        unfold f_X4_raise_73
        rw [s_multiply, Option.bind_some, su, Option.bind_some, s_multiply, Option.bind_some, sx, Option.bind_some, l1', nI_1]
        exact hsq
      · intro f hf
        obtain ⟨f, rfl⟩ : ∃ f', f = f' + 1 := ⟨f - 1, by omega⟩
        rw [f_X11_powers_40, if_neg kp2, if_pos (g2.mpr c1), sU, Option.bind_some]
        unfold f_X11_powers_77
        rw [sX, Option.bind_some, g1]
        exact I.2 f (by omega)
    · have e : rs H W S (em u (epw (rs H W S (em x x)) (k / 2))) = rs H W S (em u (epw x k)) := by
        rw [rs_mulpw h, epw_2]
        have e' : 2 * (k / 2) = k := by omega
        rw [e']
      have I := ih (k / 2) hk2 (by omega) _ _ hu hx'
      rw [e] at I
      constructor
      · intro c f hc hf
        obtain ⟨f, rfl⟩ : ∃ f', f = f' + 1 := ⟨f - 1, by omega⟩
        obtain ⟨sq, hsq⟩ := I.1 (c + 1) f (by omega) (by omega)
        refine ⟨sq, ?_⟩
        rw [f_X4_raise_35, if_neg (nl63 (show c < 63 by omega)), if_neg kp, if_neg (fun z => c1 (l2'.mp z))]
        rw [s_multiply, Option.bind_some] at sx
        unfold f_X4_raise_73
        rw [s_multiply, Option.bind_some, sx, Option.bind_some, l1', nI_1]
        exact hsq
      · intro f hf
        obtain ⟨f, rfl⟩ : ∃ f', f = f' + 1 := ⟨f - 1, by omega⟩
        rw [f_X11_powers_40, if_neg kp2, if_neg (fun z => c1 (g2.mp z))]
        unfold f_X11_powers_77
        rw [sX, Option.bind_some, g1]
        exact I.2 f (by omega)
theorem s_raise {N : Nat} (hN : 1048576 ≤ N) (h : bx m H W S) (hb : eb m) {z : Int × Int} (hz : eb z) {k : Nat} (hk : k < 2147483648) : (∃ sq : Int64 × Int64, f_X4_raise N (lI k) (lI H) (lI W) (lI S) (lI z.1) (lI z.2) = some (sq.1, sq.2, lI (rs H W S (epw z k)).1, lI (rs H W S (epw z k)).2)) ∧ f_X11_powers N (lI z.1) (lI z.2) (iI k) (lI W) (lI H) (lI S) = some (lI (rs H W S (epw z k)).1, lI (rs H W S (epw z k)).2) := by
  have hz' := eb_bd (a := z.1) (b := z.2) hz
  have k1 := small_ok h hb (x := z.1) (y := z.2) ⟨by omega, by omega⟩ ⟨by omega, by omega⟩
  have k2 := small_ok h hb (x := 1) (y := 0) ⟨by omega, by omega⟩ ⟨by omega, by omega⟩
  have r1 := s_reduce h hb k1.1 k1.2.1
  have r2 := s_reduce h hb k2.1 k2.2.1
  have t1 := s_boxes h hb k1.1 k1.2.2
  have t2 := s_boxes h hb k2.1 k2.2.2
  have I := raise_loop N h hb 31 k (by omega) (by omega) (rs H W S (1, 0)) (rs H W S z) (rs_isR h _) (rs_isR h _)
  have e : rs H W S (em (rs H W S (1, 0)) (epw (rs H W S z) k)) = rs H W S (epw z k) := by
    rw [rs_mul h, em_one, rs_epw h]
  rw [e] at I
  constructor
  · obtain ⟨sq, hsq⟩ := I.1 0 N (by omega) (by omega)
    refine ⟨sq, ?_⟩
    unfold f_X4_raise f_X5_copy f_X5_set
    rw [Option.bind_some, r1, Option.bind_some, Option.bind_some, l1, l0, r2, Option.bind_some]
    exact hsq
  · unfold f_X11_powers
    rw [t1, Option.bind_some, l1, l0, t2, Option.bind_some]
    exact I.2 N (by omega)
end RS2
