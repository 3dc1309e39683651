/-! ===== the sign by a prime, by a number ===== -/
theorem cmp2 {α : Type} {r s : Int × Int} (hr : b64 r.1 ∧ b64 r.2) (hs : b64 s.1 ∧ b64 s.2) (P Q : α) : (if lI r.1 = lI s.1 then if lI r.2 = lI s.2 then P else Q else Q) = if decide (r = s) then P else Q := by
  by_cases c : r = s
  · subst c
    rw [if_pos rfl, if_pos rfl, if_pos (decide_eq_true rfl)]
  · have nd : ¬ decide (r = s) = true := by simp only [decide_eq_true_eq]; exact c
    rw [if_neg nd]
    by_cases c1 : lI r.1 = lI s.1
    · have c2 : ¬ lI r.2 = lI s.2 := fun z => c (e_ext ((lI_eq hr.1 hs.1).mp c1) ((lI_eq hr.2 hs.2).mp z))
      rw [if_pos c1, if_neg c2]
    · rw [if_neg c1]
theorem epw_ned {p z : Int × Int} (hp : ep p) (h : ¬ ed p z) : ∀ k : Nat, ¬ ed p (epw z k) := by
  intro k
  induction k with
  | zero =>
    intro y
    have := ed_1 y
    have := hp.1
    omega
  | succ k ih =>
    intro y
    have y' : ed p (em (epw z k) z) := y
    rcases ep_mul hp y' with w | w
    · exact ih w
    · exact h w
theorem gp_mod {x : Int × Int} (h : gp x) : en x % 3 = 1 := by
  rcases h.2 with ⟨q, h1, h2, rfl⟩ | ⟨p, h1, h2, h3⟩
  · rw [en_q]
    have : (q * q) % 3 = 1 := by rw [Nat.mul_mod, h2]
    have e : (q : Int) * q = ((q * q : Nat) : Int) := rfl
    omega
  · omega
theorem s_sgn {N : Nat} (hN : 1048576 ≤ N) {z pi : Int × Int} (hz : eb z) (hpi : gp pi) (hb : eb pi) : ∃ v : Nat, v ≤ 3 ∧ (∀ ms mw mt fa fb : Int64, ∃ y, f_X10_signByPrime N ms mw mt fa fb (lI z.1) (lI z.2) (lI pi.1) (lI pi.2) = some (nI v, y)) ∧ (∀ bw bh bs : Int64, ∃ y, f_X11_signAt N (lI z.1) (lI z.2) (lI pi.1) (lI pi.2) bw bh bs = some (nI v, y)) := by
  have hp := gp_ep hpi
  have h0 := gp_ne hpi
  obtain ⟨H, W, S, hB, k3, k4⟩ := s_box hN (a := pi.1) (b := pi.2) hb h0
  have hh := bx_bd hB hb
  obtain ⟨H, rfl⟩ := Int.eq_ofNat_of_zero_le (show 0 ≤ H by omega)
  obtain ⟨W, rfl⟩ := Int.eq_ofNat_of_zero_le (show 0 ≤ W by omega)
  have hB' : bx pi (H : Int) (W : Int) S := hB
  obtain ⟨b1, b2, b3, b4⟩ := bx_pos hB'
  have n4 := gp_4 hpi
  have n3 := gp_mod hpi
  have nl : en pi ≤ 300000000 := hb
  obtain ⟨n, hn⟩ : ∃ n, n = W * H := ⟨_, rfl⟩
  rw [← hn] at b4
  have hnn : nrm pi.1 pi.2 = (n : Int) := b4.symm
  obtain ⟨t1, t2⟩ := third_k (n := n) (by omega) (by omega)
  obtain ⟨k, hk⟩ : ∃ k, k = (n - 1) / 3 := ⟨_, rfl⟩
  have hk3 : n - 1 = k * 3 := by omega
  obtain ⟨⟨sq, r1⟩, r2⟩ := s_raise hN hB' hb hz (k := k) (by omega)
  obtain ⟨y, hy⟩ : ∃ y, y = rs (H : Int) (W : Int) S (epw z k) := ⟨_, rfl⟩
  rw [← hy] at r1 r2
  have W2 : 2 ≤ W := by
    by_cases c : 2 ≤ W
    · exact c
    · exfalso
      have : W * H ≤ 1 * 1 := Nat.mul_le_mul (by omega) (by omega)
      omega
  have yR : isR (H : Int) (W : Int) y := by rw [hy]; exact rs_isR hB' _
  have yb := isR_64 (by omega) b2 yR
  have one : rs (H : Int) (W : Int) S (1, 0) = (1, 0) := rs_fix (by decide) (by show (1 : Int) < W; omega) (by decide) (by show (0 : Int) < H; omega)
  have q1 := small_ok hB' hb (x := 1) (y := 0) ⟨by decide, by decide⟩ ⟨by decide, by decide⟩
  have q2 := small_ok hB' hb (x := 0) (y := 1) ⟨by decide, by decide⟩ ⟨by decide, by decide⟩
  have q3 := small_ok hB' hb (x := -1) (y := -1) ⟨by decide, by decide⟩ ⟨by decide, by decide⟩
  have w1 := s_boxes hB' hb q1.1 q1.2.2
  have w2 := s_boxes hB' hb q2.1 q2.2.2
  have w3 := s_boxes hB' hb q3.1 q3.2.2
  have w2c := s_reduce hB' hb q2.1 q2.2.1
  rw [one] at w1
  have rb1 : b64 (1 : Int) ∧ b64 (0 : Int) := ⟨⟨by decide, by decide⟩, ⟨by decide, by decide⟩⟩
  have rb2 := isR_64 (by omega) b2 (rs_isR hB' (0, 1))
  have rb3 := isR_64 (by omega) b2 (rs_isR hB' (-1, -1))
  have w1' : f_X11_boxes 1 0 (lI W) (lI H) (lI S) = some (lI 1, lI 0) := w1
  have w2' : f_X11_boxes 0 1 (lI W) (lI H) (lI S) = some (lI (rs H W S (0, 1)).1, lI (rs H W S (0, 1)).2) := w2
  have w3' : f_X11_boxes (-1) (-1) (lI W) (lI H) (lI S) = some (lI (rs H W S (-1, -1)).1, lI (rs H W S (-1, -1)).2) := w3
  have w2c' : f_X4_reduce (lI H) (lI W) (lI S) 0 1 = some (lI (rs H W S (0, 1)).1, lI (rs H W S (0, 1)).2) := w2c
  -- what both have before they compare
  have cls : ∀ ms mw mt fa fb : Int64, f_X10_signByPrime N ms mw mt fa fb (lI z.1) (lI z.2) (lI pi.1) (lI pi.2) = if y = (0, 0) then some (3, lI H, lI W, lI S, sq.1, sq.2, fa, fb, lI y.1, lI y.2) else if y = (1, 0) then some (0, lI H, lI W, lI S, sq.1, sq.2, fa, fb, lI y.1, lI y.2) else if y = rs H W S (0, 1) then some (1, lI H, lI W, lI S, sq.1, sq.2, lI (rs H W S (0, 1)).1, lI (rs H W S (0, 1)).2, lI y.1, lI y.2) else some (2, lI H, lI W, lI S, sq.1, sq.2, lI (rs H W S (0, 1)).1, lI (rs H W S (0, 1)).2, lI y.1, lI y.2) := by
    intro ms mw mt fa fb
    unfold f_X10_signByPrime
    rw [k3, Option.bind_some, s_norm, Option.bind_some, hnn, t1, ← hk]
    simp only []
    rw [r1, Option.bind_some]
    simp only []
    rw [s_isNought yb.1 yb.2, Option.bind_some]
    by_cases c0 : y = (0, 0)
    · rw [if_pos c0, if_pos (show y.1 = 0 ∧ y.2 = 0 by rw [c0]; exact ⟨rfl, rfl⟩), if_neg j1]
    · rw [if_neg c0, if_neg (show ¬ (y.1 = 0 ∧ y.2 = 0) from fun u => c0 (e_ext u.1 u.2)), if_pos rfl]
      unfold f_X5_isSame_ f_X5_set
      have c2 := cmp2 (α := Option Int32) (r := y) (s := (1, 0)) yb rb1 (some 1) (some 0)
      have c2' : (if lI y.1 = 1 then if lI y.2 = 0 then some (1 : Int32) else some 0 else some 0) = if decide (y = (1, 0)) then some 1 else some 0 := c2
      rw [c2']
      by_cases c1 : y = (1, 0)
      · rw [if_pos c1, if_pos (decide_eq_true c1), Option.bind_some, if_neg j1]
      · have nd : ¬ decide (y = (1, 0)) = true := by simp only [decide_eq_true_eq]; exact c1
        rw [if_neg c1, if_neg nd, Option.bind_some, if_pos rfl, Option.bind_some]
        simp only []
        rw [w2c', Option.bind_some]
        simp only []
        rw [s_isSame yb rb2, Option.bind_some]
        by_cases c3 : y = rs H W S (0, 1)
        · rw [if_pos c3, if_pos (decide_eq_true c3), if_neg j1]
        · have nd3 : ¬ decide (y = rs H W S (0, 1)) = true := by simp only [decide_eq_true_eq]; exact c3
          rw [if_neg c3, if_neg nd3, if_pos rfl]
  obtain ⟨dra, drb, dv1, dv0⟩ := s_divides (a := pi.1) (b := pi.2) (c := z.1) (d := z.2) hb hz h0
  by_cases cz : ed pi z
  · have y0 : y = (0, 0) := by
      rw [hy, rs_0 hB']
      obtain ⟨k', rfl⟩ : ∃ k', k = k' + 1 := ⟨k - 1, by omega⟩
      exact ed_mull cz _
    refine ⟨3, by omega, fun ms mw mt fa fb => ⟨_, by rw [cls, if_pos y0]; rfl⟩, fun bw bh bs => ?_⟩
    unfold f_X11_signAt
    rw [dv1 cz, Option.bind_some, if_neg j1]
    exact ⟨_, rfl⟩
  · have y0 : y ≠ (0, 0) := by
      intro w
      rw [hy, rs_0 hB'] at w
      exact epw_ned hp cz k w
    have fe := fermat hB' hp cz
    rw [← hn, hk3, epw_mul] at fe
    have rt := root3 hp fe
    obtain ⟨M, hM⟩ : ∃ M, N = M + 3 := ⟨N - 3, by omega⟩
    have ref : ∀ bw bh bs : Int64, f_X11_signAt N (lI z.1) (lI z.2) (lI pi.1) (lI pi.2) bw bh bs = f_X11_signAt_61 N (M + 3) (lI y.1) (lI y.2) 0 (lI 1) (lI 0) (lI W) (lI H) (lI S) := by
      intro bw bh bs
      unfold f_X11_signAt
      rw [dv0 cz, Option.bind_some, if_pos rfl, k4, Option.bind_some, s_normOf, Option.bind_some, hnn, t2, ← hk]
      simp only []
      rw [r2, Option.bind_some, w1', Option.bind_some, ← hM]
    have st2 : ∀ k61 : Int64 → Int64 → Int32 → Int64 → Int64 → Int64 → Int64 → Int64 → Option (Int32 × Int64 × Int64 × Int64 × Int64 × Int64), f_X11_signAt_81 N k61 (lI y.1) (lI y.2) 0 (lI W) (lI H) (lI S) = k61 (lI y.1) (lI y.2) 1 (lI (rs H W S (0, 1)).1) (lI (rs H W S (0, 1)).2) (lI W) (lI H) (lI S) := by
      intro k61
      unfold f_X11_signAt_81 f_X11_signAt_101
      rw [if_pos (show (0 : Int32) + 1 = 1 by decide), if_pos (show (0 : Int32) + 1 = 1 by decide), w2', Option.bind_some]
      rfl
    have st3 : ∀ k61 : Int64 → Int64 → Int32 → Int64 → Int64 → Int64 → Int64 → Int64 → Option (Int32 × Int64 × Int64 × Int64 × Int64 × Int64), f_X11_signAt_81 N k61 (lI y.1) (lI y.2) 1 (lI W) (lI H) (lI S) = k61 (lI y.1) (lI y.2) 2 (lI (rs H W S (-1, -1)).1) (lI (rs H W S (-1, -1)).2) (lI W) (lI H) (lI S) := by
      intro k61
      unfold f_X11_signAt_81 f_X11_signAt_101
      rw [if_neg (show ¬ (1 : Int32) + 1 = 1 by decide), if_neg (show ¬ (1 : Int32) + 1 = 1 by decide), w3', Option.bind_some]
      rfl
    have cm1 := fun (P Q : Option (Int32 × Int64 × Int64 × Int64 × Int64 × Int64)) => cmp2 (r := (1, 0)) (s := y) rb1 yb P Q
    have cm2 := fun (P Q : Option (Int32 × Int64 × Int64 × Int64 × Int64 × Int64)) => cmp2 (r := rs (H : Int) (W : Int) S (0, 1)) (s := y) rb2 yb P Q
    have cm3 := fun (P Q : Option (Int32 × Int64 × Int64 × Int64 × Int64 × Int64)) => cmp2 (r := rs (H : Int) (W : Int) S (-1, -1)) (s := y) rb3 yb P Q
    by_cases c1 : y = (1, 0)
    · refine ⟨0, by omega, fun ms mw mt fa fb => ⟨_, by rw [cls, if_neg y0, if_pos c1]; rfl⟩, fun bw bh bs => ?_⟩
      rw [ref, f_X11_signAt_61, cm1, if_pos (decide_eq_true c1.symm)]
      exact ⟨_, rfl⟩
    · have n1 : ¬ decide ((1, 0) = y) = true := by simp only [decide_eq_true_eq]; exact fun u => c1 u.symm
      by_cases c2 : y = rs H W S (0, 1)
      · refine ⟨1, by omega, fun ms mw mt fa fb => ⟨_, by rw [cls, if_neg y0, if_neg c1, if_pos c2]; rfl⟩, fun bw bh bs => ?_⟩
        rw [ref, f_X11_signAt_61, cm1, if_neg n1, st2, f_X11_signAt_61, cm2, if_pos (decide_eq_true c2.symm)]
        exact ⟨_, rfl⟩
      · have n2 : ¬ decide (rs H W S (0, 1) = y) = true := by simp only [decide_eq_true_eq]; exact fun u => c2 u.symm
        have c3 : rs H W S (-1, -1) = y := by
          rcases rt with u | u | u
          · exfalso; apply c1; rw [hy, (cg_iff hB').mpr u, one]
          · exfalso; apply c2; rw [hy, (cg_iff hB').mpr u]
          · rw [hy, (cg_iff hB').mpr u]
        refine ⟨2, by omega, fun ms mw mt fa fb => ⟨_, by rw [cls, if_neg y0, if_neg c1, if_neg c2]; rfl⟩, fun bw bh bs => ?_⟩
        rw [ref, f_X11_signAt_61, cm1, if_neg n1, st2, f_X11_signAt_61, cm2, if_neg n2, st3, f_X11_signAt_61, cm3, if_pos (decide_eq_true c3)]
        exact ⟨_, rfl⟩
