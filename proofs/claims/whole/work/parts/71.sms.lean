/-! ===== the signs of a whole prime ===== -/
def wv (p : Nat) (a : Int) (b : Nat) : Nat := ((p : Int) - a % p).toNat * (b ^ (p - 2) % p) % p
section SMS
variable {p b s : Nat}
theorem spl_w (h7 : 7 ≤ p) (hp : p ≤ 997) (h3 : p % 3 = 1) (hr : rp p) (hs : isSpl p b s) : b < p ∧ wOf p (spA b s) b (wv p (spA b s) b) := by
  have bb : b < p := by
    have e := hs.2.2.1
    refine Classical.byContradiction fun z => ?_
    have q : p * p ≤ b * b := Nat.mul_le_mul (by omega) (by omega)
    have q2 : 7 * p ≤ p * p := Nat.mul_le_mul h7 (Nat.le_refl _)
    have q3 : 3 * b * b = 3 * (b * b) := Nat.mul_assoc _ _ _
    omega
  refine ⟨bb, w_ex h7 hp h3 hr hs.1 bb ?_⟩
  have := spl_norm hs
  exact this
theorem spl_sm (hs : isSpl p b s) (hp : p ≤ 997) : -9999 ≤ spA b s ∧ spA b s ≤ 9999 := by
  have bd := spl_bd hs (by omega)
  unfold spA
  by_cases c : ((b + s) / 2) % 3 = 2
  · rw [if_pos c]; omega
  · rw [if_neg c]; omega
theorem s_laysSigns {N : Nat} (hN : 1048576 ≤ N) (h7 : 7 ≤ p) (hp : p ≤ 997) (h3 : p % 3 = 1) (hr : rp p) (hs : isSpl p b s) (S : Nat → Int32) : ∃ S', f_X11_laysSigns N (iI p) S = some (lI (spA b s), lI b, S') ∧ ∀ i, 1 ≤ i → i < p → S' i = nI (sgv p (wv p (spA b s) b) i) := by
  obtain ⟨bb, hw⟩ := spl_w h7 hp h3 hr hs
  have sm := spl_sm hs hp
  obtain ⟨-, k2⟩ := s_spl hN (by omega) h3 hs
  have lp : (iI (p : Int)).toInt64 = lI (p : Int) := iI_l ⟨by omega, by omega⟩
  have r1 := s_rest (a := spA b s) (m := (p : Int)) ⟨by omega, by omega⟩ (by omega) ⟨by omega, by omega⟩
  have r2 := s_rest (a := (b : Int)) (m := (p : Int)) ⟨by omega, by omega⟩ (by omega) ⟨by omega, by omega⟩
  rw [show (b : Int) % (p : Int) = (b : Int) from Int.emod_eq_of_lt (by omega) (by omega)] at r2
  have p0 : ¬ iI (p : Int) = 0 := by rw [iI_0 ⟨by omega, by omega⟩]; omega
  have p2 : iI (p : Int) - (2 : Int32) = iI ((p - 2 : Nat) : Int) := by
    rw [show (2 : Int32) = iI 2 from rfl, iI_sub]
    exact congrArg iI (by omega)
  have e0 := Int.emod_nonneg (spA b s) (show (p : Int) ≠ 0 by omega)
  have e1 := Int.emod_lt_of_pos (spA b s) (show (0 : Int) < p by omega)
  obtain ⟨r, hr'⟩ : ∃ r, r = ((p : Int) - spA b s % p).toNat := ⟨_, rfl⟩
  have rI : iI (p : Int) - iI (spA b s % p) = iI (r : Int) := by rw [iI_sub]; exact congrArg iI (by omega)
  have il := Nat.mod_lt (b ^ (p - 2)) (show 0 < p by omega)
  have ri : r * (b ^ (p - 2) % p) ≤ 997 * 997 := Nat.mul_le_mul (by omega) (by omega)
  obtain ⟨S', l1', l2'⟩ := ls_loop hN h7 hp hw.1 (p - 1) 1 (Nat.le_refl _) (by omega) N (lI (spA b s)) (lI b) S (by omega) (fun i h1 h2 => by omega)
  refine ⟨S', ?_, l2'⟩
  unfold f_X11_laysSigns
  rw [k2, Option.bind_some]
  simp only []
  rw [lp, r1, Option.bind_some, r2, Option.bind_some, lI_i, lI_i, p2, s_powerBy hN (by omega) hp (by omega) (by omega), Option.bind_some, if_neg p0, rI, nmm, i_nmod (by omega) (by omega), hr']
  exact l1'
theorem s_markSigns {N : Nat} (hN : 1048576 ≤ N) (h7 : 7 ≤ p) (hp : p ≤ 997) (h3 : p % 3 = 1) (hr : rp p) (hs : isSpl p b s) (ms mw mt ta tb fa fb : Int64) (A : Nat → Int32) : ∃ (x1 x2 x3 x4 x5 x6 x7 x8 x9 x10 x11 x12 x13 : Int64) (A' : Nat → Int32), f_X10_markSigns N (iI p) ms mw mt ta tb fa fb A = some (x1, x2, x3, x4, x5, x6, x7, x8, x9, x10, x11, x12, x13, A') ∧ ∀ i, 1 ≤ i → i < p → A' i = nI (sgv p (wv p (spA b s) b) i) := by
  obtain ⟨bb, hw⟩ := spl_w h7 hp h3 hr hs
  have sm := spl_sm hs hp
  obtain ⟨k1, -⟩ := s_spl hN (by omega) h3 hs
  obtain ⟨A0, a1, a2⟩ := s_markCubes hN (p := p) (by omega) hp A
  obtain ⟨u, u2, up, uc, m1, -⟩ := s_leastC hN h7 hp h3 hr a2 false
  have m1' : f_X10_leastMarked N (iI p) (0 : Int32) A0 = some (nI u) := m1
  have unc : ¬ isCub p u := fun z => absurd (uc.mp z) (by decide)
  have gpi := (gp_split hr h3 hs).1
  have nrm' := spl_norm hs
  have epi : eb (spA b s, (b : Int)) := by show en (spA b s, (b : Int)) ≤ 300000000; omega
  have eu : eb ((u : Int), (0 : Int)) := by
    show nrm (u : Int) 0 ≤ 300000000
    have := nrm_le (M := 997) (a := (u : Int)) (b := 0) (by omega) (by omega) (by omega) (by omega)
    omega
  have ncz : ¬ ed (spA b s, (b : Int)) ((u : Int), (0 : Int)) := fun z => by
    have d := w_ed hw z
    rw [Int.zero_mul, Int.add_zero] at d
    have := dv_small d (by omega) (by omega)
    omega
  obtain ⟨v, v2, vC, vg⟩ := s_sgnV hN (z := ((u : Int), (0 : Int))) eu gpi epi ncz (k' := (p - 1) / 3) (by rw [nrm']; omega)
  obtain ⟨g0, g1⟩ := sgn_u h7 hw vg v2
  have hv : v = 1 ∨ v = 2 := by
    have : v ≠ 0 := fun z => unc ((cub_kub h7 hp h3 hr (by omega) up).mpr (g0 z))
    omega
  have hu := g1 (by omega)
  obtain ⟨y, ey⟩ := vC ms mw mt fa fb
  have ey' : f_X10_signByPrime N ms mw mt fa fb (lI (u : Int)) 0 (lI (spA b s)) (lI (b : Int)) = some (nI v, y) := ey
  have lu : (nI u).toInt64 = lI (u : Int) := by rw [iI_nI, iI_l ⟨by omega, by omega⟩]
  have mi : minv p (wv p (spA b s) b) A0 := by
    intro i h1 h2
    have ck := cub_kub h7 hp h3 hr h1 h2
    rcases a2 i (by omega) with q | q
    · exact Or.inl ⟨sgv_1 (ck.mp q.2), q.1⟩
    · exact Or.inr ⟨fun z => q.2 (ck.mpr (sgv_0 z)), Or.inl q.1⟩
  obtain ⟨A', e1, e2, e3⟩ := ms_loop hN h7 hp hw hv up hu y.1 y.2.1 y.2.2.1 y.2.2.2.1 y.2.2.2.2.1 (lI (u : Int)) 0 (lI (spA b s)) (lI (b : Int)) y.2.2.2.2.2.1 y.2.2.2.2.2.2.1 y.2.2.2.2.2.2.2.1 y.2.2.2.2.2.2.2.2 (p - 1) 1 (Nat.le_refl _) (by omega) N A0 (by omega) mi (fun c h1 h2 => by omega)
  have tl : ∀ i, 1 ≤ i → i < p → A' i = nI (sgv p (wv p (spA b s) b) i) := by
    intro i h1 h2
    rcases e2 i h1 h2 with q | q
    · rw [q.1, q.2]; rfl
    · rcases q.2 with z | z
      · exfalso
        obtain ⟨c, c1, c2, c3, c4⟩ := cover h7 hp h3 hr hw hv (by omega) up hu h1 h2 q.1
        obtain ⟨d1, d2⟩ := e3 c c1 c2 c3
        rcases c4 with c4 | c4
        · rw [c4] at d1; exact d1 z
        · rw [c4] at d2; exact d2 z
      · exact z
  unfold f_X10_markSigns f_X5_set
  rw [a1, Option.bind_some, k1, Option.bind_some, m1', Option.bind_some, Option.bind_some, lu]
  simp only []
  rw [ey', Option.bind_some]
  simp only []
  exact ⟨_, _, _, _, _, _, _, _, _, _, _, _, _, A', e1, tl⟩
end SMS
