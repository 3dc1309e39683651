/-! ===== the sign by a prime, and what it says ===== -/
def w3 (v : Nat) : Int × Int := if v = 0 then (1, 0) else if v = 1 then (0, 1) else (-1, -1)
theorem s_sgnV {N : Nat} (hN : 1048576 ≤ N) {z pi : Int × Int} (hz : eb z) (hpi : gp pi) (hb : eb pi) (cz : ¬ ed pi z) {k' : Nat} (hk' : en pi = 3 * (k' : Int) + 1) : ∃ v : Nat, v ≤ 2 ∧ (∀ ms mw mt fa fb : Int64, ∃ y, f_X10_signByPrime N ms mw mt fa fb (lI z.1) (lI z.2) (lI pi.1) (lI pi.2) = some (nI v, y)) ∧ cg pi (epw z k') (w3 v) := by
  have hp := gp_ep hpi
  have h0 := gp_ne hpi
  obtain ⟨H, W, S, hB, k3, k4⟩ := s_box hN (a := pi.1) (b := pi.2) hb h0
  have hh := bx_bd hB hb
  obtain ⟨H, rfl⟩ := Int.eq_ofNat_of_zero_le (show 0 ≤ H by omega)
  obtain ⟨W, rfl⟩ := Int.eq_ofNat_of_zero_le (show 0 ≤ W by omega)
  have hB' : bx pi (H : Int) (W : Int) S := hB
  obtain ⟨b1, b2, b3, b4⟩ := bx_pos hB'
  have n4 := gp_4 hpi
  have n3 := gp_mod hpi
  have nl : en pi ≤ 300000000 := hb
  obtain ⟨n, hn⟩ : ∃ n, n = W * H := ⟨_, rfl⟩
  rw [← hn] at b4
  have hnn : nrm pi.1 pi.2 = (n : Int) := b4.symm
  obtain ⟨t1, t2⟩ := third_k (n := n) (by omega) (by omega)
  obtain ⟨k, hk⟩ : ∃ k, k = (n - 1) / 3 := ⟨_, rfl⟩
  have hk3 : n - 1 = k * 3 := by omega
  obtain ⟨⟨sq, r1⟩, r2⟩ := s_raise hN hB' hb hz (k := k) (by omega)
  obtain ⟨y, hy⟩ : ∃ y, y = rs (H : Int) (W : Int) S (epw z k) := ⟨_, rfl⟩
  rw [← hy] at r1 r2
  have W2 : 2 ≤ W := by
    by_cases c : 2 ≤ W
    · exact c
    · exfalso
      have : W * H ≤ 1 * 1 := Nat.mul_le_mul (by omega) (by omega)
      omega
  have yR : isR (H : Int) (W : Int) y := by rw [hy]; exact rs_isR hB' _
  have yb := isR_64 (by omega) b2 yR
  have one : rs (H : Int) (W : Int) S (1, 0) = (1, 0) := rs_fix (by decide) (by show (1 : Int) < W; omega) (by decide) (by show (0 : Int) < H; omega)
  have q1 := small_ok hB' hb (x := 1) (y := 0) ⟨by decide, by decide⟩ ⟨by decide, by decide⟩
  have q2 := small_ok hB' hb (x := 0) (y := 1) ⟨by decide, by decide⟩ ⟨by decide, by decide⟩
  have q3 := small_ok hB' hb (x := -1) (y := -1) ⟨by decide, by decide⟩ ⟨by decide, by decide⟩
  have w1 := s_boxes hB' hb q1.1 q1.2.2
  have w2 := s_boxes hB' hb q2.1 q2.2.2
  have w3 := s_boxes hB' hb q3.1 q3.2.2
  have w2c := s_reduce hB' hb q2.1 q2.2.1
  rw [one] at w1
  have rb1 : b64 (1 : Int) ∧ b64 (0 : Int) := ⟨⟨by decide, by decide⟩, ⟨by decide, by decide⟩⟩
  have rb2 := isR_64 (by omega) b2 (rs_isR hB' (0, 1))
  have rb3 := isR_64 (by omega) b2 (rs_isR hB' (-1, -1))
  have w1' : f_X11_boxes 1 0 (lI W) (lI H) (lI S) = some (lI 1, lI 0) := w1
  have w2' : f_X11_boxes 0 1 (lI W) (lI H) (lI S) = some (lI (rs H W S (0, 1)).1, lI (rs H W S (0, 1)).2) := w2
  have w3' : f_X11_boxes (-1) (-1) (lI W) (lI H) (lI S) = some (lI (rs H W S (-1, -1)).1, lI (rs H W S (-1, -1)).2) := w3
  have w2c' : f_X4_reduce (lI H) (lI W) (lI S) 0 1 = some (lI (rs H W S (0, 1)).1, lI (rs H W S (0, 1)).2) := w2c
  -- what both have before they compare
  have cls : ∀ ms mw mt fa fb : Int64, f_X10_signByPrime N ms mw mt fa fb (lI z.1) (lI z.2) (lI pi.1) (lI pi.2) = if y = (0, 0) then some (3, lI H, lI W, lI S, sq.1, sq.2, fa, fb, lI y.1, lI y.2) else if y = (1, 0) then some (0, lI H, lI W, lI S, sq.1, sq.2, fa, fb, lI y.1, lI y.2) else if y = rs H W S (0, 1) then some (1, lI H, lI W, lI S, sq.1, sq.2, lI (rs H W S (0, 1)).1, lI (rs H W S (0, 1)).2, lI y.1, lI y.2) else some (2, lI H, lI W, lI S, sq.1, sq.2, lI (rs H W S (0, 1)).1, lI (rs H W S (0, 1)).2, lI y.1, lI y.2) := by
    intro ms mw mt fa fb
    unfold f_X10_signByPrime
    rw [k3, Option.bind_some, s_norm, Option.bind_some, hnn, t1, ← hk]
    simp only []
    rw [r1, Option.bind_some]
    simp only []
    rw [s_isNought yb.1 yb.2, Option.bind_some]
    by_cases c0 : y = (0, 0)
    · rw [if_pos c0, if_pos (show y.1 = 0 ∧ y.2 = 0 by rw [c0]; exact ⟨rfl, rfl⟩), if_neg j1]
    · rw [if_neg c0, if_neg (show ¬ (y.1 = 0 ∧ y.2 = 0) from fun u => c0 (e_ext u.1 u.2)), if_pos rfl]
      unfold f_X5_isSame_ f_X5_set
      have c2 := cmp2 (α := Option Int32) (r := y) (s := (1, 0)) yb rb1 (some 1) (some 0)
      have c2' : (if lI y.1 = 1 then if lI y.2 = 0 then some (1 : Int32) else some 0 else some 0) = if decide (y = (1, 0)) then some 1 else some 0 := c2
      rw [c2']
      by_cases c1 : y = (1, 0)
      · rw [if_pos c1, if_pos (decide_eq_true c1), Option.bind_some, if_neg j1]
      · have nd : ¬ decide (y = (1, 0)) = true := by simp only [decide_eq_true_eq]; exact c1
        rw [if_neg c1, if_neg nd, Option.bind_some, if_pos rfl, Option.bind_some]
        simp only []
        rw [w2c', Option.bind_some]
        simp only []
        rw [s_isSame yb rb2, Option.bind_some]
        by_cases c3 : y = rs H W S (0, 1)
        · rw [if_pos c3, if_pos (decide_eq_true c3), if_neg j1]
        · have nd3 : ¬ decide (y = rs H W S (0, 1)) = true := by simp only [decide_eq_true_eq]; exact c3
          rw [if_neg c3, if_neg nd3, if_pos rfl]
  have kk : k' = k := by omega
  subst kk
  have y0 : y ≠ (0, 0) := by
    intro w
    rw [hy, rs_0 hB'] at w
    exact epw_ned hp cz _ w
  have fe := fermat hB' hp cz
  rw [← hn, hk3, epw_mul] at fe
  have rt := root3 hp fe
  by_cases c1 : y = (1, 0)
  · refine ⟨0, by omega, fun ms mw mt fa fb => ⟨_, by rw [cls, if_neg y0, if_pos c1]; rfl⟩, ?_⟩
    show cg pi _ (1, 0)
    exact (cg_iff hB').mp (by rw [← hy, c1, one])
  · by_cases c2 : y = rs (H : Int) (W : Int) S (0, 1)
    · refine ⟨1, by omega, fun ms mw mt fa fb => ⟨_, by rw [cls, if_neg y0, if_neg c1, if_pos c2]; rfl⟩, ?_⟩
      show cg pi _ (0, 1)
      exact (cg_iff hB').mp (by rw [← hy, c2])
    · refine ⟨2, by omega, fun ms mw mt fa fb => ⟨_, by rw [cls, if_neg y0, if_neg c1, if_neg c2]; rfl⟩, ?_⟩
      show cg pi _ (-1, -1)
      rcases rt with q | q | q
      · exact absurd (by rw [hy, (cg_iff hB').mpr q, one]) c1
      · exact absurd (by rw [hy, (cg_iff hB').mpr q]) c2
      · exact q
