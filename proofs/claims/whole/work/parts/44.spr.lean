/-! ===== a number written: the class, what no whole number divides ===== -/
theorem s_mp {N : Nat} (hN : 1048576 ≤ N) {x : Int × Int} (hx : eb x) (h3 : (x.1 + x.2) % 3 ≠ 0) : ∃ i, i < 6 ∧ prim (eit i x) ∧ f_X5_makePrimary N (lI x.1) (lI x.2) = some (lI (eit i x).1, lI (eit i x).2) ∧ f_X11_takesThrees N (lI x.1) (lI x.2) = some (lI (eit i x).1, lI (eit i x).2, 0) := by
  have h0 : x ≠ (0, 0) := fun z => by rw [z] at h3; exact h3 (by decide)
  obtain ⟨t, y, i, ht, hi, e, hy, hb, hp, -, k2, k3⟩ := s_threes hN h0 hx
  have t0 : t = 0 := by
    cases t with
    | zero => rfl
    | succ t =>
      exfalso
      have : en x = en y * en (e3 t) * 3 := by
        rw [e, en_em, e3, en_em, Int.mul_assoc]; rfl
      have h : en x % 3 = 0 := by rw [this]; omega
      exact h3 (en_m3.mp h)
  subst t0
  have exy : x = y := by rw [e, e3, em_one']
  subst exy
  exact ⟨i, hi, hp, k2, k3⟩
theorem ed_eit (k : Nat) (x : Int × Int) : ed (eit k x) x ∧ ed x (eit k x) := by
  have h1 : en (eit k (1, 0)) = 1 := by rw [en_eit]; rfl
  rw [eit_em k x]
  refine ⟨⟨ec (eit k (1, 0)), ?_⟩, ed_mul _ _⟩
  rw [em_assoc, en_unit h1, em_one']
theorem ec_nat (p : Nat) : ec ((p : Int), 0) = ((p : Int), 0) := e_ext (by simp [ec]) (by simp [ec])
theorem ed_ec {x y : Int × Int} (h : ed x y) : ed (ec x) (ec y) := by
  obtain ⟨q, rfl⟩ := h
  rw [ec_em]
  exact ed_mul _ _
theorem ed_n {p : Nat} {z : Int × Int} (h : (p : Int) ∣ en z) : ed ((p : Int), 0) (em z (ec z)) := by
  obtain ⟨t, ht⟩ := h
  exact ⟨(t, 0), by rw [em_ec, ht]; exact e_ext (by simp [em]) (by simp [em])⟩
/-- a prime of the norm is one of thirds, where no whole number divides -/
theorem pr_third {x : Int × Int} (h3 : (x.1 + x.2) % 3 ≠ 0) {r : Nat} (hr : rp r) (hd : (r : Int) ∣ en x) (hp : ¬ ed ((r : Int), 0) x) : r % 6 = 1 := by
  have hr2 := hr.1
  have r3 : r % 3 = 1 := by
    have c0 : r % 3 ≠ 0 := by
      intro z
      have : (3 : Int) ∣ en x := Int.dvd_trans (by omega) hd
      exact h3 (en_m3.mp (by omega))
    have c2 : r % 3 ≠ 2 := by
      intro z
      rcases ep_mul (ep_inert hr z) (ed_n hd) with y | y
      · exact hp y
      · have := ed_ec y
        rw [ec_nat, ec_ec] at this
        exact hp this
    omega
  have r2 : r % 2 = 1 := by
    have : r % 2 ≠ 0 := by
      intro z
      rcases hr.2 2 (Nat.dvd_of_mod_eq_zero z) with y | y
      · omega
      · omega
    omega
  omega
/-- the one-sided prime divides what is left -/
theorem pi_div {p : Nat} {pi left x : Int × Int} (hpi : ep pi) (hn : en pi = p) (h1 : ed pi left) (hp : ¬ ed ((p : Int), 0) left) (hx : ed x left) (hd : (p : Int) ∣ en x) : ed pi x := by
  have epp : em pi (ec pi) = ((p : Int), 0) := by rw [em_ec, hn]
  have d : ed pi (em x (ec x)) := ed_trans (by rw [← epp]; exact ed_mul _ _) (ed_n hd)
  rcases ep_mul hpi d with z | z
  · exact z
  · have z2 : ed (ec pi) x := by have := ed_ec z; rw [ec_ec] at this; exact this
    obtain ⟨m, hm⟩ := h1
    have hec : ep (ec pi) := by
      refine ⟨by rw [en_ec]; exact hpi.1, fun y w e => ?_⟩
      have := hpi.2 (ec y) (ec w) (by rw [← ec_em, ← e, ec_ec])
      rw [en_ec, en_ec] at this
      exact this
    have z3 : ed (ec pi) (em pi m) := by rw [← hm]; exact ed_trans z2 hx
    rcases ep_mul hec z3 with w | w
    · obtain ⟨u, hu⟩ := w
      have e1 : en u = 1 := by
        rcases hpi.2 (ec pi) u hu with y | y
        · rw [en_ec] at y; have := hpi.1; omega
        · exact y
      have : ed pi (ec pi) := ⟨ec u, by
        have : em pi (ec u) = em (em (ec pi) u) (ec u) := by rw [← hu]
        rw [this, em_assoc, en_unit e1, em_one']⟩
      exact ed_trans this z2
    · obtain ⟨m', hm'⟩ := w
      exfalso
      exact hp ⟨m', by rw [hm, hm', ← em_assoc, epp]⟩
section SPR
variable {N : Nat}
theorem s_fdiv (hN : 1048576 ≤ N) {left : Int × Int} (hl : eb left) (h3 : (left.1 + left.2) % 3 ≠ 0) {p : Nat} (hp : rp p) (hp' : p ≤ 300000000) (hd : (p : Int) ∣ en left) (hn : ¬ ed ((p : Int), 0) left) : ∃ pi : Int × Int, gp pi ∧ en pi = p ∧ ed pi left ∧ ∀ (qa qb : Int64) (QA QB : Nat → Int64), ∃ (c : Int32) (z1 z2 z3 z4 z5 z6 z7 z8 z9 z10 z11 z12 z13 z14 : Int64) (z15 z16 : Nat → Int64), f_X2_findDivisorOf N (lI p) qa qb QA QB (lI left.1) (lI left.2) = some (c, z1, z2, z3, z4, z5, z6, z7, z8, z9, z10, z11, z12, z13, z14, z15, z16, lI pi.1, lI pi.2) := by
  have p6 := pr_third h3 hp hd hn
  have pw : ebw ((p : Int), 0) := by
    unfold ebw
    rw [en_q]
    have pp : p * p ≤ 300000000 * 300000000 := Nat.mul_le_mul hp' hp'
    have : (p : Int) * p = ((p * p : Nat) : Int) := rfl
    omega
  obtain ⟨g, g1, g2, ⟨u, v, g3⟩, g4⟩ := s_partw hN pw hl
  have ng : en g = p := by
    rcases gcd_norm hp hd g2 g1 ⟨v, u, by rw [g3]; exact e_ext (by simp only [ead]; omega) (by simp only [ead]; omega)⟩ with z | z
    · exact z
    · exact absurd z.2 hn
  have ebg : eb g := by unfold eb; omega
  have g3' : (g.1 + g.2) % 3 ≠ 0 := by
    intro z
    have := en_m3.mpr z
    omega
  obtain ⟨i, hi, pr, k1, -⟩ := s_mp hN ebg g3'
  refine ⟨eit i g, ⟨pr, Or.inr ⟨p, hp, by omega, by rw [en_eit, ng]⟩⟩, by rw [en_eit, ng], ed_trans (ed_eit i g).1 g2, fun qa qb QA QB => ?_⟩
  obtain ⟨c, z, e⟩ := g4 qa qb QA QB
  have e' : f_X1_part N qa qb QA QB (lI (p : Int)) 0 (lI left.1) (lI left.2) = some (c, lI g.1, lI g.2, z) := e
  unfold f_X2_findDivisorOf f_X5_set f_X5_copy
  simp only [Option.bind_some, e', k1]
  exact ⟨_, _, _, _, _, _, _, _, _, _, _, _, _, _, _, _, _, rfl⟩
variable {left Y : Int × Int}
/-- what is fixed while the rest is spelled -/
def fixS (left Y : Int × Int) : Prop := eb left ∧ (left.1 + left.2) % 3 ≠ 0 ∧ eb Y ∧ Y ≠ (0, 0) ∧ ∀ r : Nat, rp r → ¬ ed ((r : Int), 0) left
theorem sr_in (hN : 1048576 ≤ N) (F : fixS left Y) (K : Int64 → Int64 → Int32 → (Nat → Int64) → (Nat → Int64) → (Nat → Int64) → Int32 → Int64 → Int64 → Int64 → Int64 → Int64 → Int64 → Int64 → Int64 → Int64 → Int64 → Int64 → Int64 → Int64 → Int64 → (Nat → Int64) → (Nat → Int64) → Int64 → Int64 → Int64 → Int64 → Option (Int32 × (Nat → Int64) × (Nat → Int64) × (Nat → Int64) × Int32 × Int64 × Int64 × Int64 × Int64 × Int64 × Int64 × Int64 × Int64 × Int64 × Int64 × Int64 × Int64 × Int64 × Int64 × (Nat → Int64) × (Nat → Int64) × Int64 × Int64)) {p : Nat} (hp : rp p) (hpl : p ≤ 20000) {pi : Int × Int} (hpi : gp pi) (hpn : en pi = p) (hpd : ed pi left) (c : Int32) (z1 z2 z3 z4 z5 z6 z7 z8 z9 z10 z11 z12 z13 z14 : Int64) (z15 z16 : Nat → Int64) (la lb : Int64) : ∀ (j r : Nat) (x : Int × Int), 1 ≤ r → r < 2 ^ j → r ≤ 300000000 → en x = r → ed x left → ∀ (L : List (Int × Int)) (i f : Nat) (A B n : Nat → Int64), i + j < 32 → j < f → stL L → em (epr L) x = Y → rpC L A B n → ∃ (r' : Nat) (x' : Int × Int) (L' : List (Int × Int)) (A' B' n' : Nat → Int64), f_X2_spellRest_44 N K f (lI r) (lI p) (nI i) (nI L.length) A B n c z1 z2 z3 z4 z5 z6 z7 z8 z9 z10 z11 z12 z13 z14 z15 z16 la lb (lI pi.1) (lI pi.2) = K (lI r') (lI ((p + 6 : Nat) : Int)) (nI L'.length) A' B' n' c z1 z2 z3 z4 z5 z6 z7 z8 z9 z10 z11 z12 z13 z14 z15 z16 la lb (lI pi.1) (lI pi.2) ∧ 1 ≤ r' ∧ r' ∣ r ∧ ¬ p ∣ r' ∧ en x' = r' ∧ ed x' left ∧ stL L' ∧ em (epr L') x' = Y ∧ rpC L' A' B' n' := by
  obtain ⟨F1, F2, F3, F4, F5⟩ := F
  have hp2 := hp.1
  have e1 : lI (p : Int) + 6 = lI ((p + 6 : Nat) : Int) := by rw [show (6 : Int64) = lI 6 from rfl, lI_add]; rfl
  have qn : ¬ lI (p : Int) = 0 := by rw [lI_0 ⟨by omega, by omega⟩]; omega
  intro j
  induction j with
  | zero => intro r x h1 h2; simp at h2; omega
  | succ j ih =>
    intro r x h1 h2 h3 hx hxl L i f A B n hi hf hs hY hr
    obtain ⟨f, rfl⟩ : ∃ f', f = f' + 1 := ⟨f - 1, by omega⟩
    rw [f_X2_spellRest_44, if_neg (nl32 (by omega)), if_neg qn]
    by_cases cd : p ∣ r
    · have cd' : (p : Int) ∣ en x := by rw [hx]; exact Int.natCast_dvd_natCast.mpr cd
      obtain ⟨x', hx'⟩ := pi_div (gp_ep hpi) hpn hpd (F5 p hp) hxl cd'
      obtain ⟨t, rfl⟩ := cd
      have t0 : t ≠ 0 := fun z => by rw [z, Nat.mul_zero] at h1; omega
      have nx' : en x' = t := by
        have := en_em pi x'
        rw [← hx', hx, hpn, Int.natCast_mul] at this
        exact (Int.eq_of_mul_eq_mul_left (by omega) this).symm
      have sb := stL_eb hs F3 F4 ⟨x, hY.symm⟩
      have ebp : eb pi := by unfold eb; omega
      obtain ⟨L1, A1, B1, m1, a1, a2, a3, a4, a5, a6⟩ := s_insert (x := pi) hN hs.1 ebp sb.1 (by omega) hr
      have dv : p * t / p = t := Nat.mul_div_cancel_left t (by omega)
      rw [if_pos ((l_rem0 (by omega) (by omega) (by omega)).mpr ⟨t, rfl⟩), a1, Option.bind_some, if_neg qn, l_div (by omega) (by omega), dv, nI_1]
      have tl : t * 2 ≤ p * t := by rw [Nat.mul_comm p t]; exact Nat.mul_le_mul_left t hp2
      have hY' : em (epr L1) x' = Y := by rw [a4, em_comm pi, em_assoc, ← hx', hY]
      obtain ⟨r', x2, L', A', B', n', b1, b2, b3, b4, b5, b6, b7, b8, b9⟩ := ih t x' (by omega) (by rw [Nat.pow_succ] at h2; omega) (by omega) nx' (ed_trans ⟨pi, by rw [hx', em_comm]⟩ hxl) L1 (i + 1) f A1 B1 m1 (by omega) (by omega) ⟨a3, a6 gp hs.2 hpi⟩ hY' a2
      exact ⟨r', x2, L', A', B', n', b1, b2, Nat.dvd_trans b3 ⟨p, Nat.mul_comm p t⟩, b4, b5, b6, b7, b8, b9⟩
    · rw [if_neg (fun z => cd ((l_rem0 (by omega) (by omega) (by omega)).mp z)), e1]
      exact ⟨r, x, L, A, B, n, rfl, h1, Nat.dvd_refl r, cd, hx, hxl, hs, hY, hr⟩
theorem sr_last (hN : 1048576 ≤ N) (F : fixS left Y) {p r : Nat} {x : Int × Int} (hp : 7 ≤ p) (h1 : 1 ≤ r) (h2 : r ≤ 300000000) (hx : en x = r) (hxl : ed x left) (hq : ∀ d, rp d → d ∣ r → p ≤ d) (hlt : r < p * p) {L : List (Int × Int)} {A B n : Nat → Int64} (hs : stL L) (hY : em (epr L) x = Y) (hr : rpC L A B n) (c : Int32) (z1 z2 z3 z4 z5 z6 z7 z8 z9 z10 z11 z12 z13 z14 : Int64) (z15 z16 : Nat → Int64) (fa fb : Int64) : ∃ (L' : List (Int × Int)) (v : Int × Int) (A' B' n' : Nat → Int64) (z : Int32 × Int64 × Int64 × Int64 × Int64 × Int64 × Int64 × Int64 × Int64 × Int64 × Int64 × Int64 × Int64 × Int64 × Int64 × (Nat → Int64) × (Nat → Int64) × Int64 × Int64), f_X2_spellRest_82 N (lI r) (nI L.length) A B n c z1 z2 z3 z4 z5 z6 z7 z8 z9 z10 z11 z12 z13 z14 z15 z16 (lI left.1) (lI left.2) fa fb = some (nI L'.length, A', B', n', z) ∧ en v = 1 ∧ stL L' ∧ em (epr L') v = Y ∧ rpC L' A' B' n' := by
  obtain ⟨F1, F2, F3, F4, F5⟩ := F
  unfold f_X2_spellRest_82
  by_cases c1 : r = 1
  · subst c1
    rw [if_pos (by decide)]
    exact ⟨L, x, A, B, n, _, rfl, by rw [hx]; rfl, hs, hY, hr⟩
  · obtain ⟨k, hk⟩ := lp_ex (n := r) (by omega)
    have hkp := hq k (lp_rp hk) hk.2.1
    have hkr : k = r := by
      rcases lp_sq (by omega) hk with z | z
      · exact z
      · exfalso
        have := Nat.mul_le_mul hkp hkp
        omega
    have hrp := (lp_iff hk (by omega)).mpr hkr
    have hd : (r : Int) ∣ en left := by rw [← hx]; exact en_ed hxl
    obtain ⟨pi, q1, q2, q3, q4⟩ := s_fdiv hN F1 F2 hrp h2 hd (F5 r hrp)
    obtain ⟨c', w1, w2, w3, w4, w5, w6, w7, w8, w9, w10, w11, w12, w13, w14, w15, w16, e⟩ := q4 z13 z14 z15 z16
    obtain ⟨v, hv⟩ := pi_div (gp_ep q1) q2 q3 (F5 r hrp) hxl (by rw [hx]; exact Int.dvd_refl _)
    have nv : en v = 1 := by
      have := en_em pi v
      rw [← hv, hx, q2] at this
      have h : (r : Int) * 1 = (r : Int) * en v := by omega
      exact (Int.eq_of_mul_eq_mul_left (by omega) h).symm
    have sb := stL_eb hs F3 F4 ⟨x, hY.symm⟩
    have ebp : eb pi := by unfold eb; omega
    obtain ⟨L1, A1, B1, m1, a1, a2, a3, a4, a5, a6⟩ := s_insert (x := pi) hN hs.1 ebp sb.1 (by omega) hr
    rw [if_neg (by rw [l1, lI_le ⟨by omega, by omega⟩ ⟨by decide, by decide⟩]; omega), e, Option.bind_some]
    simp only []
    rw [a1, Option.bind_some]
    exact ⟨L1, v, A1, B1, m1, _, rfl, nv, ⟨a3, a6 gp hs.2 q1⟩, by rw [a4, em_comm pi, em_assoc, ← hv, hY], a2⟩
theorem sr_out (hN : 1048576 ≤ N) (F : fixS left Y) : ∀ (j p : Nat), p + 6 * j = 20005 → p % 6 = 1 → 7 ≤ p → ∀ (r : Nat) (x : Int × Int), 1 ≤ r → r ≤ 300000000 → en x = r → ed x left → (∀ d, rp d → d ∣ r → p ≤ d) → ∀ (L : List (Int × Int)) (f : Nat) (A B n : Nat → Int64), j < f → stL L → em (epr L) x = Y → rpC L A B n → ∀ (c : Int32) (z1 z2 z3 z4 z5 z6 z7 z8 z9 z10 z11 z12 z13 z14 : Int64) (z15 z16 : Nat → Int64) (fa fb : Int64), ∃ (L' : List (Int × Int)) (v : Int × Int) (A' B' n' : Nat → Int64) (z : Int32 × Int64 × Int64 × Int64 × Int64 × Int64 × Int64 × Int64 × Int64 × Int64 × Int64 × Int64 × Int64 × Int64 × Int64 × (Nat → Int64) × (Nat → Int64) × Int64 × Int64), f_X2_spellRest_12 N f (lI r) (lI p) (nI L.length) A B n c z1 z2 z3 z4 z5 z6 z7 z8 z9 z10 z11 z12 z13 z14 z15 z16 (lI left.1) (lI left.2) fa fb = some (nI L'.length, A', B', n', z) ∧ en v = 1 ∧ stL L' ∧ em (epr L') v = Y ∧ rpC L' A' B' n' := by
  have F' := F
  obtain ⟨F1, F2, F3, F4, F5⟩ := F'
  have nxt : ∀ (p r : Nat) (x : Int × Int), p % 6 = 1 → en x = r → ed x left → (∀ d, rp d → d ∣ r → p ≤ d) → ¬ p ∣ r → ∀ d, rp d → d ∣ r → p + 6 ≤ d := by
    intro p r x hp hx hxl hq hn d d1 d2
    have h1 := hq d d1 d2
    have hne : d ≠ p := fun z => hn (by rw [← z]; exact d2)
    have h2 := pr_third F2 d1 (Int.dvd_trans (Int.natCast_dvd_natCast.mpr d2) (by rw [← hx]; exact en_ed hxl)) (F5 d d1)
    omega
  intro j
  induction j with
  | zero =>
    intro p hp hp6 hp7 r x h1 h2 hx hxl hq L f A B n hf hs hY hr c z1 z2 z3 z4 z5 z6 z7 z8 z9 z10 z11 z12 z13 z14 z15 z16 fa fb
    obtain ⟨f, rfl⟩ : ∃ f', f = f' + 1 := ⟨f - 1, by omega⟩
    obtain rfl : p = 20005 := by omega
    rw [f_X2_spellRest_12, if_pos (by decide)]
    exact sr_last hN F (by omega) h1 h2 hx hxl hq (by omega) hs hY hr c z1 z2 z3 z4 z5 z6 z7 z8 z9 z10 z11 z12 z13 z14 z15 z16 fa fb
  | succ j ih =>
    intro p hp hp6 hp7 r x h1 h2 hx hxl hq L f A B n hf hs hY hr c z1 z2 z3 z4 z5 z6 z7 z8 z9 z10 z11 z12 z13 z14 z15 z16 fa fb
    obtain ⟨f, rfl⟩ : ∃ f', f = f' + 1 := ⟨f - 1, by omega⟩
    have pp : p * p ≤ 20005 * 20005 := Nat.mul_le_mul (by omega) (by omega)
    have es : (p : Int) * (p : Int) = ((p * p : Nat) : Int) := rfl
    have qn : ¬ lI (p : Int) = 0 := by rw [lI_0 ⟨by omega, by omega⟩]; omega
    have e1 : lI (p : Int) + 6 = lI ((p + 6 : Nat) : Int) := by rw [show (6 : Int64) = lI 6 from rfl, lI_add]; rfl
    rw [f_X2_spellRest_12, if_neg (by rw [show (20000 : Int64) = lI 20000 from rfl, lI_lt ⟨by decide, by decide⟩ ⟨by omega, by omega⟩]; omega), lI_mul, es]
    by_cases c1 : r < p * p
    · rw [if_pos ((lI_lt ⟨by omega, by omega⟩ ⟨by omega, by omega⟩).mpr (by omega))]
      exact sr_last hN F hp7 h1 h2 hx hxl hq c1 hs hY hr c z1 z2 z3 z4 z5 z6 z7 z8 z9 z10 z11 z12 z13 z14 z15 z16 fa fb
    · rw [if_neg (by rw [lI_lt ⟨by omega, by omega⟩ ⟨by omega, by omega⟩]; omega), if_neg qn]
      by_cases cd : p ∣ r
      · have hrp : rp p := by
          obtain ⟨k, hk⟩ := lp_ex (n := p) (by omega)
          have l1 := hq k (lp_rp hk) (Nat.dvd_trans hk.2.1 cd)
          have l2 := Nat.le_of_dvd (by omega) hk.2.1
          exact (lp_iff hk (by omega)).mpr (by omega)
        have hd : (p : Int) ∣ en left := Int.dvd_trans (Int.natCast_dvd_natCast.mpr cd) (by rw [← hx]; exact en_ed hxl)
        obtain ⟨pi, q1, q2, q3, q4⟩ := s_fdiv hN F1 F2 hrp (by omega) hd (F5 p hrp)
        obtain ⟨c', w1, w2, w3, w4, w5, w6, w7, w8, w9, w10, w11, w12, w13, w14, w15, w16, e⟩ := q4 z13 z14 z15 z16
        rw [if_pos ((l_rem0 (by omega) (by omega) (by omega)).mpr cd), e, Option.bind_some]
        have p29 : (2 : Nat) ^ 29 = 536870912 := by decide
        obtain ⟨r', x', L', A', B', n', b1, b2, b3, b4, b5, b6, b7, b8, b9⟩ := sr_in hN F (f_X2_spellRest_12 N f) hrp (by omega) q1 q2 q3 c' w1 w2 w3 w4 w5 w6 w7 w8 w9 w10 w11 w12 w13 w14 w15 w16 (lI left.1) (lI left.2) 29 r x h1 (by omega) h2 hx hxl L 0 N A B n (by omega) (by omega) hs hY hr
        have b1' : f_X2_spellRest_44 N (f_X2_spellRest_12 N f) N (lI r) (lI p) 0 (nI L.length) A B n c' w1 w2 w3 w4 w5 w6 w7 w8 w9 w10 w11 w12 w13 w14 w15 w16 (lI left.1) (lI left.2) (lI pi.1) (lI pi.2) = _ := b1
        simp only []
        rw [b1']
        have rl := Nat.le_of_dvd (by omega) b3
        exact ih (p + 6) (by omega) (by omega) (by omega) r' x' b2 (by omega) b5 b6 (nxt p r' x' hp6 b5 b6 (fun d d1 d2 => hq d d1 (Nat.dvd_trans d2 b3)) b4) L' f A' B' n' (by omega) b7 b8 b9 c' w1 w2 w3 w4 w5 w6 w7 w8 w9 w10 w11 w12 w13 w14 w15 w16 _ _
      · rw [if_neg (fun z => cd ((l_rem0 (by omega) (by omega) (by omega)).mp z)), e1]
        exact ih (p + 6) (by omega) (by omega) (by omega) r x h1 h2 hx hxl (nxt p r x hp6 hx hxl hq cd) L f A B n (by omega) hs hY hr c z1 z2 z3 z4 z5 z6 z7 z8 z9 z10 z11 z12 z13 z14 z15 z16 fa fb
end SPR
