/-! ===== a number written: the class, together ===== -/
theorem epr_take {L : List (Int × Int)} {k : Nat} (hk : k < L.length) : epr (L.take (k + 1)) = em (epr (L.take k)) L[k] := by
  have e : L.take (k + 1) = L.take k ++ [L[k]] := by rw [List.take_add_one]; simp [hk]
  rw [e, epr_app]
  show em _ (em L[k] (1, 0)) = _
  rw [em_one']
theorem eit_succ (k : Nat) (x : Int × Int) : eit (k + 1) x = em (eit k x) (1, 1) := by
  rw [eit, eit_em k (em x (1, 1)), eit_em k x, em_assoc, em_assoc, em_comm (1, 1)]
/-- the unit: the least one that leads there -/
theorem unit_ex {P n : Int × Int} (h0 : n ≠ (0, 0)) {v : Int × Int} (hv : en v = 1) (e : n = em P v) : ∃ u, u < 6 ∧ eit u P = n ∧ ∀ j, j < u → eit j P ≠ n := by
  have hn : en P = en n := by rw [e, en_em, hv]; omega
  have hd : ed n P := ⟨ec v, by rw [e, em_assoc, en_unit hv, em_one']⟩
  obtain ⟨k, k1, k2⟩ := (alike_iff h0 hn).mp hd
  obtain ⟨u, u1, u2, u3⟩ := least_ex (P := fun u => eit u P = n) k k2
  exact ⟨u, by omega, u2, u3⟩
section SPU
variable {N : Nat} {L : List (Int × Int)} {n : Int × Int}
theorem fu_unit (hN : 1048576 ≤ N) {P : Int × Int} (hP : eb P) (hn : eb n) {u : Nat} (hu : u < 6) (h1 : eit u P = n) (h2 : ∀ j, j < u → eit j P ≠ n) (fa fb : Int64) : ∀ (j k : Nat), k + j = u → ∀ f : Nat, j < f → ∃ z : Int64 × Int64 × Int64 × Int64, f_X2_findUnit_91 N f (nI k) (nI k) fa fb (lI (eit k P).1) (lI (eit k P).2) (lI n.1) (lI n.2) = some (nI u, z) := by
  have bn := eb_64 (a := n.1) (b := n.2) hn
  have bk : ∀ k, b64 (eit k P).1 ∧ b64 (eit k P).2 := fun k => en_64 (en_eit k P) hP
  intro j
  induction j with
  | zero =>
    intro k hk f hf
    obtain ⟨f, rfl⟩ : ∃ f', f = f' + 1 := ⟨f - 1, by omega⟩
    obtain rfl : k = u := by omega
    rw [f_X2_findUnit_91, if_neg (nl6 hu), s_isSame (bk k) bn, Option.bind_some, if_pos (decide_eq_true h1), if_neg j1]
    exact ⟨_, rfl⟩
  | succ j ih =>
    intro k hk f hf
    obtain ⟨f, rfl⟩ : ∃ f', f = f' + 1 := ⟨f - 1, by omega⟩
    have e1 : f_X5_multiplyByUnit N 1 (lI (eit k P).1) (lI (eit k P).2) = some (lI (eit (k + 1) P).1, lI (eit (k + 1) P).2) := by
      have := s_mbu hN (eit k P).1 (eit k P).2 (u := 1) (by decide)
      rw [eit_succ]
      exact this
    have sm : f_X5_isSame (lI (eit k P).1) (lI (eit k P).2) (lI n.1) (lI n.2) = some 0 := by
      have ne : ¬ decide (eit k P = n) = true := by simp only [decide_eq_true_eq]; exact h2 k (by omega)
      rw [s_isSame (bk k) bn, if_neg ne]
    rw [f_X2_findUnit_91, if_neg (nl6 (by omega)), sm, Option.bind_some, if_pos rfl, e1, Option.bind_some, nI_1]
    exact ih (k + 1) (by omega) f (by omega)
theorem fu_three (hN : 1048576 ≤ N) {P0 : Int × Int} {t : Nat} (ht : t < 20) (hP : eb (em P0 (e3 t))) (hn : eb n) {u : Nat} (hu : u < 6) (h1 : eit u (em P0 (e3 t)) = n) (h2 : ∀ j, j < u → eit j (em P0 (e3 t)) ≠ n) : ∀ (j k : Nat), k + j = t → ∀ f : Nat, j < f → ∃ z : Int64 × Int64 × Int64 × Int64, f_X2_findUnit_58 N f (nI k) (nI t) 0 (lI 1) (lI (-1)) (lI (em P0 (e3 k)).1) (lI (em P0 (e3 k)).2) (lI n.1) (lI n.2) = some (nI u, z) := by
  intro j
  induction j with
  | zero =>
    intro k hk f hf
    obtain ⟨f, rfl⟩ : ∃ f', f = f' + 1 := ⟨f - 1, by omega⟩
    obtain rfl : k = t := by omega
    rw [f_X2_findUnit_58, if_pos (nI_le (Nat.le_refl _) (by omega))]
    exact fu_unit hN hP hn hu h1 h2 _ _ u 0 (by omega) N (by omega)
  | succ j ih =>
    intro k hk f hf
    obtain ⟨f, rfl⟩ : ∃ f', f = f' + 1 := ⟨f - 1, by omega⟩
    have e : em (em P0 (e3 k)) (1, -1) = em P0 (e3 (k + 1)) := by rw [em_assoc]; rfl
    have m := s_multiply (em P0 (e3 k)).1 (em P0 (e3 k)).2 1 (-1)
    have m' : f_X5_multiply (lI (em P0 (e3 k)).1) (lI (em P0 (e3 k)).2) (lI 1) (lI (-1)) = some (lI (em P0 (e3 (k + 1))).1, lI (em P0 (e3 (k + 1))).2) := by rw [← e]; exact m
    rw [f_X2_findUnit_58, if_neg (nI_ge (by omega) (by omega)), if_neg (nl60 (by omega)), m', Option.bind_some, nI_1]
    exact ih (k + 1) (by omega) f (by omega)
theorem s_load2 {A B nn : Nat → Int64} (hr : rpC L A B nn) {k : Nat} (hk : k < L.length) (hl : L.length ≤ 14) (x y : Int64) : f_X2_load (nI k) (nI L.length) A B x y = some (lI L[k].1, lI L[k].2) := by
  have h := hr k hk
  unfold f_X2_load
  rw [if_neg (nI_pos (by omega)), if_neg (nI_ge hk (by omega)), if_neg (nl32 (by omega)), if_neg (nI_in (N := 32) (by omega) (by decide)), if_neg (nI_in (N := 32) (by omega) (by decide)), nI_clamp (by omega), h.1, h.2.1]
  rfl
theorem fu_list (hN : 1048576 ≤ N) {A B nn : Nat → Int64} (hr : rpC L A B nn) (hl : L.length ≤ 14) {t : Nat} (ht : t < 20) (hP : eb (em (epr L) (e3 t))) (hn : eb n) {u : Nat} (hu : u < 6) (h1 : eit u (em (epr L) (e3 t)) = n) (h2 : ∀ j, j < u → eit j (em (epr L) (e3 t)) ≠ n) : ∀ (j k : Nat), k + j = L.length → ∀ (f : Nat) (fa fb : Int64), j < f → ∃ z : Int64 × Int64 × Int64 × Int64, f_X2_findUnit_11 N f (nI k) (nI L.length) (nI t) 0 A B fa fb (lI (epr (L.take k)).1) (lI (epr (L.take k)).2) (lI n.1) (lI n.2) = some (nI u, z) := by
  intro j
  induction j with
  | zero =>
    intro k hk f fa fb hf
    obtain ⟨f, rfl⟩ : ∃ f', f = f' + 1 := ⟨f - 1, by omega⟩
    obtain rfl : k = L.length := by omega
    rw [f_X2_findUnit_11, if_pos (nI_le (Nat.le_refl _) (by omega)), List.take_length]
    unfold f_X5_set
    rw [Option.bind_some]
    have := fu_three hN (P0 := epr L) ht hP hn hu h1 h2 t 0 (by omega) N (by omega)
    have e : em (epr L) (e3 0) = epr L := by rw [e3, em_one']
    rw [e] at this
    exact this
  | succ j ih =>
    intro k hk f fa fb hf
    obtain ⟨f, rfl⟩ : ∃ f', f = f' + 1 := ⟨f - 1, by omega⟩
    have hkl : k < L.length := by omega
    have m := s_multiply (epr (L.take k)).1 (epr (L.take k)).2 L[k].1 L[k].2
    have m' : f_X5_multiply (lI (epr (L.take k)).1) (lI (epr (L.take k)).2) (lI L[k].1) (lI L[k].2) = some (lI (epr (L.take (k + 1))).1, lI (epr (L.take (k + 1))).2) := by rw [epr_take hkl]; exact m
    rw [f_X2_findUnit_11, if_neg (nI_ge hkl (by omega)), s_load2 hr hkl hl, Option.bind_some, m', Option.bind_some, nI_1]
    exact ih (k + 1) (by omega) f _ _ (by omega)
end SPU
theorem en_e3 : ∀ t : Nat, en (e3 t) = ((3 ^ t : Nat) : Int) := by
  intro t
  induction t with
  | zero => rfl
  | succ t ih =>
    rw [e3, en_em, ih, Nat.pow_succ, Int.natCast_mul]
    rfl
/-- a whole divisor is not large -/
theorem g_bd {n y : Int × Int} {t : Nat} (hn : kNum n.1 n.2) (h0 : n ≠ (0, 0)) (e : n = em y (e3 t)) {r : Nat} (hd : ed ((r : Int), 0) y) : r ≤ 10000 := by
  obtain ⟨⟨c, d⟩, hq⟩ := hd
  have e1 : y = ((r : Int) * c, (r : Int) * d) := by rw [hq]; exact e_ext (by simp [em]) (by simp [em])
  by_cases c0 : r ≤ 10000
  · exact c0
  · exfalso
    have y0 : y ≠ (0, 0) := fun z => by rw [z, em_zero'] at e; exact h0 e
    have cd0 : (c, d) ≠ (0, 0) := fun z => by
      have z1 : c = 0 := congrArg Prod.fst z
      have z2 : d = 0 := congrArg Prod.snd z
      rw [z1, z2, Int.mul_zero] at e1
      exact y0 e1
    cases t with
    | zero =>
      rw [e3, em_one'] at e
      obtain ⟨b1, b2, b3, b4⟩ := hn
      rw [e, e1] at b1 b2 b3 b4
      simp only [] at b1 b2 b3 b4
      have big : ∀ z : Int, z ≠ 0 → -9999 ≤ (r : Int) * z → (r : Int) * z ≤ 9999 → False := by
        intro z hz l1 l2
        rcases Int.lt_or_gt_of_ne hz with s | s
        · have := Int.mul_le_mul_of_nonneg_left (show z ≤ -1 by omega) (show (0 : Int) ≤ r by omega)
          omega
        · have := Int.mul_le_mul_of_nonneg_left (show 1 ≤ z by omega) (show (0 : Int) ≤ r by omega)
          omega
      by_cases cz : c = 0
      · by_cases dz : d = 0
        · exact cd0 (by rw [cz, dz])
        · exact big d dz b3 b4
      · exact big c cz b1 b2
    | succ t =>
      have hb := hn.eb
      unfold eb at hb
      have e2 : en n = en y * en (e3 (t + 1)) := by rw [e, en_em]
      have e3' : (3 : Int) ≤ en (e3 (t + 1)) := by
        rw [en_e3]
        have : 3 ^ 1 ≤ 3 ^ (t + 1) := Nat.pow_le_pow_right (by decide) (by omega)
        omega
      have ny : en y = (r : Int) * r * en (c, d) := by
        rw [hq, en_em, en_q]
      have p1 := en_pos cd0
      have rr : (10001 : Int) * 10001 ≤ (r : Int) * r := Int.mul_le_mul (by omega) (by omega) (by decide) (by omega)
      have l1 : (r : Int) * r * 1 ≤ (r : Int) * r * en (c, d) := Int.mul_le_mul_of_nonneg_left p1 (by omega)
      have l2 : en y * 3 ≤ en y * en (e3 (t + 1)) := Int.mul_le_mul_of_nonneg_left e3' (by omega)
      have hb' : en n ≤ 300000000 := hb
      omega
theorem s_spell {N : Nat} (hN : 1048576 ≤ N) {n y : Int × Int} {t : Nat} (hn : kNum n.1 n.2) (h0 : n ≠ (0, 0)) (ht : t < 20) (e : n = em y (e3 t)) (h3 : (y.1 + y.2) % 3 ≠ 0) (hy : eb y) (k1 : f_X5_takeOutThrees N (lI n.1) (lI n.2) = some (nI t, lI y.1, lI y.2)) (A B nn : Nat → Int64) (c : Int32) (z1 z2 z3 z4 z5 z6 z7 z8 z9 z10 z11 z12 z13 z14 : Int64) (z15 z16 : Nat → Int64) (fa fb pa pb : Int64) : ∃ (L : List (Int × Int)) (v : Int × Int) (A' B' n' : Nat → Int64), stL L ∧ en v = 1 ∧ em (epr L) v = y ∧ rpC L A' B' n' ∧ ∀ u : Nat, u < 6 → eit u (em (epr L) (e3 t)) = n → (∀ j, j < u → eit j (em (epr L) (e3 t)) ≠ n) → ∃ z, f_X2_spell N A B nn c z1 z2 z3 z4 z5 z6 z7 z8 z9 z10 z11 z12 z13 z14 z15 z16 fa fb pa pb (lI n.1) (lI n.2) = some (nI L.length, nI t, nI u, A', B', n', z) := by
  have y0 : y ≠ (0, 0) := fun z => by rw [z, em_zero'] at e; exact h0 e
  have bd := eb_bd (a := y.1) (b := y.2) hy
  obtain ⟨g, g0, g1, ⟨ya, hya⟩, ⟨yb, hyb⟩, ⟨u0, v0, hg⟩, kg⟩ := s_divisor hN (a := y.1) (b := y.2) ⟨by omega, by omega⟩ ⟨by omega, by omega⟩
  obtain ⟨g, rfl⟩ := Int.eq_ofNat_of_zero_le g0
  have gn0 : g ≠ 0 := fun z => y0 (e_ext (by rw [hya, z]; simp) (by rw [hyb, z]; simp))
  have hdg : ed ((g : Int), 0) y := ⟨(ya, yb), e_ext (by rw [hya]; simp [em]) (by rw [hyb]; simp [em])⟩
  have gl := g_bd hn h0 e hdg
  have g3 : g % 3 ≠ 0 := by
    intro z
    obtain ⟨k, rfl⟩ : ∃ k, g = 3 * k := ⟨g / 3, by omega⟩
    apply h3
    rw [hya, hyb]
    have : ((3 * k : Nat) : Int) * ya + ((3 * k : Nat) : Int) * yb = 3 * ((k : Int) * (ya + yb)) := by
      rw [Int.natCast_mul]; grind
    rw [this]; omega
  have yeq : em ((g : Int), 0) (ya, yb) = y := e_ext (by rw [hya]; simp [em]) (by rw [hyb]; simp [em])
  obtain ⟨L0, A0, B0, n0, fa0, fb0, w1, w2, w3, w4⟩ := s_whole hN hy y0 (by omega) gl g3 hdg A B nn fa fb
  -- what is left
  have l0' : (ya, yb) ≠ (0, 0) := fun z => y0 (by rw [← yeq, z, em_zero])
  have lle : en (ya, yb) ≤ en y := en_ed_le ⟨((g : Int), 0), by rw [em_comm]; exact yeq.symm⟩ y0
  have leb : eb (ya, yb) := Int.le_trans lle hy
  have l3' : (ya + yb) % 3 ≠ 0 := by
    intro z
    apply h3
    rw [hya, hyb]
    obtain ⟨k, hk⟩ : ∃ k, ya + yb = 3 * k := ⟨(ya + yb) / 3, by omega⟩
    have : (g : Int) * ya + (g : Int) * yb = 3 * ((g : Int) * k) := by
      have : (g : Int) * ya + (g : Int) * yb = (g : Int) * (ya + yb) := by grind
      rw [this, hk]; grind
    rw [this]; omega
  have hone : u0 * ya + v0 * yb = 1 := by
    have : (g : Int) * (u0 * ya + v0 * yb) = (g : Int) * 1 := by
      have h : (g : Int) = u0 * ((g : Int) * ya) + v0 * ((g : Int) * yb) := by rw [← hya, ← hyb]; exact hg
      have h2 : (g : Int) * (u0 * ya + v0 * yb) = u0 * ((g : Int) * ya) + v0 * ((g : Int) * yb) := by grind
      rw [h2, ← h]; omega
    exact Int.eq_of_mul_eq_mul_left (by omega) this
  have F : fixS (ya, yb) y := by
    refine ⟨leb, l3', hy, y0, fun r hr hd => ?_⟩
    obtain ⟨⟨c1, c2⟩, hq⟩ := hd
    have e1 : ya = (r : Int) * c1 := by have := congrArg Prod.fst hq; simpa [em] using this
    have e2 : yb = (r : Int) * c2 := by have := congrArg Prod.snd hq; simpa [em] using this
    have : (r : Int) * (u0 * c1 + v0 * c2) = 1 := by rw [← hone, e1, e2]; grind
    have hr2 := hr.1
    have hdv : (r : Int) ∣ 1 := ⟨_, this.symm⟩
    have := Int.le_of_dvd (by decide) hdv
    omega
  obtain ⟨en0, hen0⟩ := en_nat (ya, yb)
  have p1 := en_pos l0'
  have hen : en (ya, yb) ≤ 300000000 := leb
  obtain ⟨L, v, A', B', n', z, r1, r2, r3, r4, r5⟩ := sr_out hN F 3333 7 (by omega) (by omega) (by omega) en0 (ya, yb) (by omega) (by omega) hen0 (ed_refl _) (fun d d1 d2 => by
    have := pr_third l3' d1 (by rw [hen0]; exact Int.natCast_dvd_natCast.mpr d2) (F.2.2.2.2 d d1)
    have := d1.1
    omega) L0 N A0 B0 n0 (by omega) w2 (by rw [w3]; exact yeq) w4 c z1 z2 z3 z4 z5 z6 z7 z8 z9 z10 z11 z12 z13 z14 z15 z16 fa0 fb0
  have hne : eb n := hn.eb
  have dL : ed (epr L) y := ⟨v, r4.symm⟩
  have sb := stL_eb r3 hy y0 dL
  refine ⟨L, v, A', B', n', r3, r2, r4, r5, fun u hu h1 h2 => ?_⟩
  have ebP : eb (em (epr L) (e3 t)) := by
    have : en (em (epr L) (e3 t)) = en n := by rw [← h1, en_eit]
    unfold eb
    rw [this]; exact hne
  obtain ⟨zz, fu⟩ := fu_list hN r5 sb.2 ht ebP hne hu h1 h2 L.length 0 (by omega) N z.2.2.2.2.2.2.2.2.2.2.2.2.2.2.2.2.2.1 z.2.2.2.2.2.2.2.2.2.2.2.2.2.2.2.2.2.2 (by omega)
  have gn : ¬ lI (g : Int) = 0 := by rw [lI_0 ⟨by omega, by omega⟩]; omega
  have d1 : lI y.1 / lI (g : Int) = lI ya := by
    rw [hya, lI_div ⟨by omega, by omega⟩ ⟨by omega, by omega⟩, Int.mul_tdiv_cancel_left _ (by omega)]
  have d2 : lI y.2 / lI (g : Int) = lI yb := by
    rw [hyb, lI_div ⟨by omega, by omega⟩ ⟨by omega, by omega⟩, Int.mul_tdiv_cancel_left _ (by omega)]
  have nrm0 : f_X5_norm (lI ya) (lI yb) = some (lI (en0 : Int)) := by rw [s_norm]; show some (lI (en (ya, yb))) = _; rw [hen0]
  have fu' : f_X2_findUnit_11 N N 0 (nI L.length) (nI t) 0 A' B' z.2.2.2.2.2.2.2.2.2.2.2.2.2.2.2.2.2.1 z.2.2.2.2.2.2.2.2.2.2.2.2.2.2.2.2.2.2 1 0 (lI n.1) (lI n.2) = some (nI u, zz) := fu
  unfold f_X2_spell f_X5_copy f_X5_set
  simp only [Option.bind_some, k1, kg]
  rw [if_pos (by rw [l1, lI_le ⟨by decide, by decide⟩ ⟨by omega, by omega⟩]; omega), if_neg gn, if_neg gn]
  simp only [d1, d2, w1, Option.bind_some]
  unfold f_X2_spellRest f_X2_findUnit f_X5_set
  have r1' : f_X2_spellRest_12 N N (lI (en0 : Int)) 7 (nI L0.length) A0 B0 n0 c z1 z2 z3 z4 z5 z6 z7 z8 z9 z10 z11 z12 z13 z14 z15 z16 (lI ya) (lI yb) fa0 fb0 = some (nI L.length, A', B', n', z) := r1
  simp only [nrm0, Option.bind_some, r1', fu']
  exact ⟨_, rfl⟩
