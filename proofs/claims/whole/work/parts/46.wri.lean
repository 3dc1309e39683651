/-! ===== a number written: the reference, and both together ===== -/
theorem eq_ex {c q : Int × Int} (hc : c ≠ (0, 0)) : eq_ (em c q) c = q := by
  have hp := en_pos hc
  have e : em (em c q) (ec c) = (q.1 * en c, q.2 * en c) := by
    rw [em_comm c q, em_assoc, em_ec]
    exact e_ext (by simp [em]) (by simp [em])
  unfold eq_
  rw [e, rnd_ex (by omega), rnd_ex (by omega)]
theorem i_div {n q : Nat} (hn : n < 2147483648) (hq' : q < 2147483648) : iI n / iI q = iI ((n / q : Nat) : Int) := by
  rw [iI_div ⟨by omega, by omega⟩ ⟨by omega, by omega⟩, Int.tdiv_eq_ediv_of_nonneg (by omega)]
  rfl
section WRI
variable {N : Nat} {L : List (Int × Int)} {n : Int × Int}
theorem wu_unit (hN : 1048576 ≤ N) {P : Int × Int} (hP : eb P) (hn : eb n) {u : Nat} (hu : u < 6) (h1 : eit u P = n) (h2 : ∀ j, j < u → eit j P ≠ n) (th pm on : Int32) (pa pb pn : Nat → Int32) : ∀ (j k : Nat), k + j = u → ∀ f : Nat, j < f → f_X11_writes_319 N f (lI n.1) (lI n.2) (lI P.1) (lI P.2) (lI (eit k P).1) (lI (eit k P).2) th pm on (nI k) pa pb pn = some (lI n.1, lI n.2, th, pm, on, nI u, pa, pb, pn) := by
  have bn := eb_64 (a := n.1) (b := n.2) hn
  have bk : ∀ k, b64 (eit k P).1 ∧ b64 (eit k P).2 := fun k => en_64 (en_eit k P) hP
  intro j
  induction j with
  | zero =>
    intro k hk f hf
    obtain ⟨f, rfl⟩ : ∃ f', f = f' + 1 := ⟨f - 1, by omega⟩
    obtain rfl : k = u := by omega
    rw [f_X11_writes_319, h1, if_pos rfl, if_pos rfl]
  | succ j ih =>
    intro k hk f hf
    obtain ⟨f, rfl⟩ : ∃ f', f = f' + 1 := ⟨f - 1, by omega⟩
    have e1 : f_X11_unitTimes N (lI P.1) (lI P.2) (nI (k + 1)) = some (lI (eit (k + 1) P).1, lI (eit (k + 1) P).2) := s_ut P.1 P.2 (u := k + 1) (by omega) (by omega)
    have key : f_X11_writes_337 N (f_X11_writes_319 N f) (lI n.1) (lI n.2) (lI P.1) (lI P.2) th pm on (nI k) pa pb pn = some (lI n.1, lI n.2, th, pm, on, nI u, pa, pb, pn) := by
      unfold f_X11_writes_337
      rw [nI_1, e1, Option.bind_some]
      exact ih (k + 1) (by omega) f (by omega)
    rw [f_X11_writes_319]
    by_cases c1 : lI (eit k P).1 = lI n.1
    · rw [if_pos c1]
      have c2 : ¬ lI (eit k P).2 = lI n.2 := by
        intro z
        exact h2 k (by omega) (e_ext ((lI_eq (bk k).1 bn.1).mp c1) ((lI_eq (bk k).2 bn.2).mp z))
      rw [if_neg c2]; exact key
    · rw [if_neg c1]; exact key
theorem wu_three (hN : 1048576 ≤ N) {P0 : Int × Int} {t : Nat} (ht : t < 20) (hP : eb (em P0 (e3 t))) (hn : eb n) {u : Nat} (hu : u < 6) (h1 : eit u (em P0 (e3 t)) = n) (h2 : ∀ j, j < u → eit j (em P0 (e3 t)) ≠ n) (th pm : Int32) (pa pb pn : Nat → Int32) : ∀ (j k : Nat), k + j = t → ∀ f : Nat, j < f → f_X11_writes_262 N f (lI n.1) (lI n.2) (nI k) (lI (em P0 (e3 k)).1) (lI (em P0 (e3 k)).2) th pm (nI t) pa pb pn = some (lI n.1, lI n.2, th, pm, nI t, nI u, pa, pb, pn) := by
  intro j
  induction j with
  | zero =>
    intro k hk f hf
    obtain ⟨f, rfl⟩ : ∃ f', f = f' + 1 := ⟨f - 1, by omega⟩
    obtain rfl : k = t := by omega
    have e0 : f_X11_unitTimes N (lI (em P0 (e3 k)).1) (lI (em P0 (e3 k)).2) 0 = some (lI (em P0 (e3 k)).1, lI (em P0 (e3 k)).2) := s_ut (em P0 (e3 k)).1 (em P0 (e3 k)).2 (u := 0) (by omega) (by omega)
    rw [f_X11_writes_262, if_pos (nI_le (Nat.le_refl _) (by omega)), e0, Option.bind_some]
    exact wu_unit hN hP hn hu h1 h2 th pm (nI k) pa pb pn u 0 (by omega) N (by omega)
  | succ j ih =>
    intro k hk f hf
    obtain ⟨f, rfl⟩ : ∃ f', f = f' + 1 := ⟨f - 1, by omega⟩
    have e : em (em P0 (e3 k)) (1, -1) = em P0 (e3 (k + 1)) := by rw [em_assoc]; rfl
    have m := s_times (em P0 (e3 k)).1 (em P0 (e3 k)).2 1 (-1)
    have m' : f_X11_times (lI (em P0 (e3 k)).1) (lI (em P0 (e3 k)).2) 1 (-1) = some (lI (em P0 (e3 (k + 1))).1, lI (em P0 (e3 (k + 1))).2) := by rw [← e]; exact m
    rw [f_X11_writes_262, if_neg (nI_ge (by omega) (by omega)), m', Option.bind_some, nI_1]
    exact ih (k + 1) (by omega) f (by omega)
theorem wu_list (hN : 1048576 ≤ N) {pa pb pn : Nat → Int32} (hr : rpR L pa pb pn) (hb : ∀ y, y ∈ L → eb y) (hl : L.length ≤ 14) {t : Nat} (ht : t < 20) (hP : eb (em (epr L) (e3 t))) (hn : eb n) {u : Nat} (hu : u < 6) (h1 : eit u (em (epr L) (e3 t)) = n) (h2 : ∀ j, j < u → eit j (em (epr L) (e3 t)) ≠ n) (th : Int32) : ∀ (j k : Nat), k + j = L.length → ∀ (f : Nat), j < f → f_X11_writes_216 N f (lI n.1) (lI n.2) (nI k) (lI (epr (L.take k)).1) (lI (epr (L.take k)).2) th (nI L.length) (nI t) pa pb pn = some (lI n.1, lI n.2, th, nI L.length, nI t, nI u, pa, pb, pn) := by
  intro j
  induction j with
  | zero =>
    intro k hk f hf
    obtain ⟨f, rfl⟩ : ∃ f', f = f' + 1 := ⟨f - 1, by omega⟩
    obtain rfl : k = L.length := by omega
    rw [f_X11_writes_216, if_pos (nI_le (Nat.le_refl _) (by omega)), List.take_length]
    have := wu_three hN (P0 := epr L) ht hP hn hu h1 h2 th (nI L.length) pa pb pn t 0 (by omega) N (by omega)
    have e : em (epr L) (e3 0) = epr L := by rw [e3, em_one']
    rw [e] at this
    exact this
  | succ j ih =>
    intro k hk f hf
    obtain ⟨f, rfl⟩ : ∃ f', f = f' + 1 := ⟨f - 1, by omega⟩
    have hkl : k < L.length := by omega
    have b := eb_32 (a := L[k].1) (b := L[k].2) (hb _ (List.getElem_mem hkl))
    have m := s_times (epr (L.take k)).1 (epr (L.take k)).2 L[k].1 L[k].2
    have m' : f_X11_times (lI (epr (L.take k)).1) (lI (epr (L.take k)).2) (lI L[k].1) (lI L[k].2) = some (lI (epr (L.take (k + 1))).1, lI (epr (L.take (k + 1))).2) := by rw [epr_take hkl]; exact m
    have hk' := hr k hkl
    have o := nI_in (show k < 40 by omega) (by decide)
    rw [f_X11_writes_216, if_neg (nI_ge hkl (by omega)), if_neg o, if_neg o, nI_clamp (by omega), hk'.1, hk'.2.1, iI_l b.1, iI_l b.2, m', Option.bind_some, nI_1]
    exact ih (k + 1) (by omega) f (by omega)
/-- one more prime that is a norm -/
theorem w137 (hN : 1048576 ≤ N) (K : Int64 → Int64 → Int64 → Int64 → Int32 → Int32 → Int32 → Int32 → (Nat → Int32) → (Nat → Int32) → (Nat → Int32) → Option (Int64 × Int64 × Int32 × Int32 × Int32 × Int32 × (Nat → Int32) × (Nat → Int32) × (Nat → Int32))) {X : Int × Int} (hX : eb X) (hX0 : X ≠ (0, 0)) {p left : Nat} (hp : rp p) (h31 : p % 3 = 1) (hlt : left ≤ 300000000) (hpl : p ∣ left) (h1 : 1 ≤ left) {x h : Int × Int} (hx : en x = left) (hh : en h = p) (hd : ed h x) (hs : stL L) (hY : em (epr L) x = X) {pa pb pn : Nat → Int32} (hr : rpR L pa pb pn) (v1 v3 : Int64) (on : Int32) : ∃ (x' : Int × Int) (L' : List (Int × Int)) (pa' pb' pn' : Nat → Int32), f_X11_writes_137 N K v1 v3 (lI x.1) (lI x.2) (iI left) (iI p) (lI h.1) (lI h.2) (nI L.length) on pa pb pn = K v1 v3 (lI x'.1) (lI x'.2) (iI ((left / p : Nat) : Int)) 0 (nI L'.length) on pa' pb' pn' ∧ en x' = ((left / p : Nat) : Int) ∧ ed x' x ∧ stL L' ∧ em (epr L') x' = X ∧ rpR L' pa' pb' pn' := by
  have hp2 := hp.1
  have pl := Nat.le_of_dvd (by omega) hpl
  have h3 : (h.1 + h.2) % 3 ≠ 0 := by
    intro z
    have := en_m3.mpr z
    omega
  have ebh : eb h := by unfold eb; omega
  have ebx : eb x := by unfold eb; omega
  obtain ⟨i, hi, pr, -, k1⟩ := s_mp hN ebh h3
  have nc : en (eit i h) = p := by rw [en_eit, hh]
  have gc : gp (eit i h) := ⟨pr, Or.inr ⟨p, hp, h31, nc⟩⟩
  have ebc : eb (eit i h) := by unfold eb; omega
  obtain ⟨x', hx'⟩ := ed_trans (ed_eit i h).1 hd
  have b32c := eb_32 (a := (eit i h).1) (b := (eit i h).2) ebc
  have sb := stL_eb hs hX hX0 ⟨x, hY.symm⟩
  obtain ⟨L', pa', pb', pn', a1, a2, a3, a4, a5, a6⟩ := s_notes (x := eit i h) hN hs.1 ebc sb.1 (by omega) hr
  have pt := s_parts (a := x.1) (b := x.2) (c := (eit i h).1) (d := (eit i h).2) ebx ebc (gp_ne gc)
  have eqx : eq_ (x.1, x.2) ((eit i h).1, (eit i h).2) = x' := by
    have : eq_ x (eit i h) = x' := by rw [hx']; exact eq_ex (gp_ne gc)
    exact this
  rw [eqx] at pt
  have pn0 : ¬ iI (p : Int) = 0 := by rw [iI_0 ⟨by omega, by omega⟩]; omega
  have nx' : en x' = ((left / p : Nat) : Int) := by
    obtain ⟨t, rfl⟩ := hpl
    have := en_em (eit i h) x'
    rw [← hx', hx, nc, Int.natCast_mul] at this
    have := Int.eq_of_mul_eq_mul_left (by omega) this
    rw [Nat.mul_div_cancel_left t (by omega), this]
  refine ⟨x', L', pa', pb', pn', ?_, nx', ⟨eit i h, by rw [em_comm]; exact hx'⟩, ⟨a3, a6 gp hs.2 gc⟩, by rw [a4, em_comm (eit i h), em_assoc, ← hx', hY], a2⟩
  unfold f_X11_writes_137
  rw [k1, Option.bind_some]
  simp only []
  rw [lI_i, lI_i, a1, Option.bind_some, iI_l b32c.1, iI_l b32c.2, pt, Option.bind_some, if_neg pn0, i_div (by omega) (by omega)]
theorem wr_loop (hN : 1048576 ≤ N) {X : Int × Int} (hX : eb X) (hX0 : X ≠ (0, 0)) (h3 : (X.1 + X.2) % 3 ≠ 0) (hg : ∀ r : Nat, ed ((r : Int), 0) X → r ≤ 10000) (v1 v3 : Int64) (on : Int32) : ∀ (j left : Nat), 1 ≤ left → left < 2 ^ j → left ≤ 300000000 → ∀ (x : Int × Int) (L : List (Int × Int)) (f : Nat) (th : Int32) (pa pb pn : Nat → Int32), j < f → en x = left → stL L → em (epr L) x = X → rpR L pa pb pn → ∃ (v : Int × Int) (L' : List (Int × Int)) (th' : Int32) (pa' pb' pn' : Nat → Int32), f_X11_writes_40 N f v1 v3 (lI x.1) (lI x.2) (iI left) th (nI L.length) on pa pb pn = f_X11_writes_216 N N v1 v3 0 1 0 th' (nI L'.length) on pa' pb' pn' ∧ en v = 1 ∧ stL L' ∧ em (epr L') v = X ∧ rpR L' pa' pb' pn' := by
  intro j
  induction j with
  | zero => intro left h1 h2; simp at h2; omega
  | succ j ih =>
    intro left h1 h2 hl x L f th pa pb pn hf hx hs hY hr
    obtain ⟨f, rfl⟩ : ∃ f', f = f' + 1 := ⟨f - 1, by omega⟩
    rw [f_X11_writes_40]
    by_cases c1 : left = 1
    · subst c1
      rw [if_pos (by decide)]
      unfold f_X11_sets
      rw [Option.bind_some]
      exact ⟨x, L, th, pa, pb, pn, rfl, by rw [hx]; rfl, hs, hY, hr⟩
    · have gt : ¬ iI (left : Int) ≤ 1 := by
        intro z
        have := (iI_le (a := (left : Int)) (b := 1) ⟨by omega, by omega⟩ ⟨by decide, by decide⟩).mp z
        omega
      obtain ⟨p, hp⟩ := lp_ex (n := left) (by omega)
      have hrp := lp_rp hp
      have hp2 := hp.1
      have pl := Nat.le_of_dvd (by omega) hp.2.1
      have hdx : (p : Int) ∣ en x := by rw [hx]; exact Int.natCast_dvd_natCast.mpr hp.2.1
      have hxX : ed x X := ⟨epr L, by rw [em_comm]; exact hY.symm⟩
      have ebx : eb x := by unfold eb; omega
      have x3 : (x.1 + x.2) % 3 ≠ 0 := by
        intro z
        have z1 := en_m3.mpr z
        have z2 := en_ed hxX
        have : (3 : Int) ∣ en X := Int.dvd_trans (by omega) z2
        exact h3 (en_m3.mp (by omega))
      have l3 : left % 3 ≠ 0 := by
        intro z
        exact x3 (en_m3.mp (by omega))
      have p3 : p % 3 ≠ 0 := by
        intro z
        exact l3 (Nat.mod_eq_zero_of_dvd (Nat.dvd_trans (Nat.dvd_of_mod_eq_zero z) hp.2.1))
      have m2 : (iI (p : Int) - iI (p : Int) / 3 * 3 = 2) ↔ p % 3 = 2 := i_mod3 (n := p) (by omega) 2 (by decide)
      rw [if_neg gt, s_lp hN (by omega) hl hp, Option.bind_some]
      by_cases c2 : p % 3 = 2
      · have hpx : ed ((p : Int), 0) x := by
          rcases ep_mul (ep_inert hrp c2) (ed_n hdx) with y | y
          · exact y
          · have := ed_ec y
            rw [ec_nat, ec_ec] at this
            exact this
        obtain ⟨⟨c, d⟩, hq⟩ := hpx
        have e1 : x.1 = (p : Int) * c := by rw [hq]; simp [em]
        have e2 : x.2 = (p : Int) * d := by rw [hq]; simp [em]
        obtain ⟨m, hm⟩ := en_nat (c, d)
        have hleft : left = p * (p * m) := by
          have := en_em ((p : Int), 0) (c, d)
          rw [← hq, hx, en_q, hm] at this
          have h : ((left : Nat) : Int) = ((p * (p * m) : Nat) : Int) := by
            rw [this, Int.natCast_mul, Int.natCast_mul, Int.mul_assoc]
          omega
        have m0 : m ≠ 0 := fun z => by rw [z, Nat.mul_zero, Nat.mul_zero] at hleft; omega
        have pp : p * p ≤ left := by
          rw [hleft]
          exact Nat.mul_le_mul_left p (Nat.le_mul_of_pos_right p (by omega))
        have ebp : eb ((p : Int), 0) := by unfold eb; rw [en_q]; have : (p : Int) * p = ((p * p : Nat) : Int) := rfl; omega
        have g : gp ((p : Int), 0) := ⟨⟨by show (p : Int) % 3 = 2; omega, by show (0 : Int) % 3 = 0; omega⟩, Or.inl ⟨p, hrp, c2, rfl⟩⟩
        have sb := stL_eb hs hX hX0 ⟨x, hY.symm⟩
        obtain ⟨L', pa', pb', pn', a1, a2, a3, a4, a5, a6⟩ := s_notes (x := ((p : Int), 0)) hN hs.1 ebp sb.1 (by omega) hr
        have a1' : f_X11_notes N (iI (p : Int)) 0 (nI L.length) pa pb pn = some (nI L'.length, pa', pb', pn') := a1
        have pn0 : ¬ iI (p : Int) = 0 := by rw [iI_0 ⟨by omega, by omega⟩]; omega
        have pn1 : ¬ lI (p : Int) = 0 := by rw [lI_0 ⟨by omega, by omega⟩]; omega
        have bx := eb_bd (a := x.1) (b := x.2) ebx
        have d1 : lI x.1 / lI (p : Int) = lI c := by
          have b1 : b64 x.1 := ⟨by omega, by omega⟩
          rw [lI_div b1 ⟨by omega, by omega⟩, e1, Int.mul_tdiv_cancel_left _ (by omega)]
        have d2 : lI x.2 / lI (p : Int) = lI d := by
          have b1 : b64 x.2 := ⟨by omega, by omega⟩
          rw [lI_div b1 ⟨by omega, by omega⟩, e2, Int.mul_tdiv_cancel_left _ (by omega)]
        have d3 : iI (left : Int) / iI (p : Int) / iI (p : Int) = iI (m : Int) := by
          rw [i_div (by omega) (by omega), i_div (by have := Nat.div_le_self left p; omega) (by omega), hleft, Nat.mul_div_cancel_left _ (by omega), Nat.mul_div_cancel_left _ (by omega)]
        rw [if_pos (m2.mpr c2), a1', Option.bind_some, iI_l ⟨by omega, by omega⟩, if_neg pn1, if_neg pn1, if_neg pn0, if_neg pn0, d1, d2, d3]
        have ml : 2 * m ≤ left := by
          have h4 := Nat.mul_le_mul hp2 (Nat.mul_le_mul hp2 (Nat.le_refl m))
          omega
        exact ih m (by omega) (by rw [Nat.pow_succ] at h2; omega) (by omega) (c, d) L' f th pa' pb' pn' (by omega) hm ⟨a3, a6 gp hs.2 g⟩ (by rw [a4, em_comm ((p : Int), 0), em_assoc, ← hq, hY]) a2
      · have h31 : p % 3 = 1 := by omega
        have pw : ebw ((p : Int), 0) := by
          unfold ebw
          rw [en_q]
          have pp : p * p ≤ 300000000 * 300000000 := Nat.mul_le_mul (by omega) (by omega)
          have : (p : Int) * p = ((p * p : Nat) : Int) := rfl
          omega
        obtain ⟨g, g1, g2, g3, g4⟩ := s_commonsw hN (eb_w ebx) pw
        have g4' : f_X11_commons N (lI x.1) (lI x.2) (lI (p : Int)) 0 = some (lI g.1, lI g.2) := g4
        have ng := gcd_norm hrp hdx g1 g2 g3
        have pp : p * p ≤ 300000000 * 300000000 := Nat.mul_le_mul (by omega) (by omega)
        have epp : (p : Int) * p = ((p * p : Nat) : Int) := rfl
        have fin : ∀ h : Int × Int, en h = p → ed h x → ∃ (v : Int × Int) (L' : List (Int × Int)) (th' : Int32) (pa' pb' pn' : Nat → Int32), f_X11_writes_137 N (f_X11_writes_40 N f) v1 v3 (lI x.1) (lI x.2) (iI left) (iI p) (lI h.1) (lI h.2) (nI L.length) on pa pb pn = f_X11_writes_216 N N v1 v3 0 1 0 th' (nI L'.length) on pa' pb' pn' ∧ en v = 1 ∧ stL L' ∧ em (epr L') v = X ∧ rpR L' pa' pb' pn' := by
          intro h hh hd
          obtain ⟨x', L', pa', pb', pn', b1, b2, b3, b4, b5, b6⟩ := w137 hN (f_X11_writes_40 N f) hX hX0 hrp h31 hl hp.2.1 h1 hx hh hd hs hY hr v1 v3 on
          rw [b1]
          obtain ⟨t, ht⟩ := hp.2.1
          have t0 : t ≠ 0 := fun z => by rw [z, Nat.mul_zero] at ht; omega
          have dv : left / p = t := by rw [ht, Nat.mul_div_cancel_left t (by omega)]
          rw [dv] at b2 ⊢
          have tl : t * 2 ≤ left := by rw [ht, Nat.mul_comm p t]; exact Nat.mul_le_mul_left t hp2
          exact ih t (by omega) (by rw [Nat.pow_succ] at h2; omega) (by omega) x' L' f 0 pa' pb' pn' (by omega) b2 b4 b5 b6
        rw [if_neg (fun z => c2 (m2.mp z)), iI_l ⟨by omega, by omega⟩, g4', Option.bind_some, s_normX, Option.bind_some, lI_mul, epp]
        have eng : nrm g.1 g.2 = en g := rfl
        rw [eng]
        rcases ng with z | ⟨z, hpx⟩
        · have ne : ¬ lI (en g) = lI ((p * p : Nat) : Int) := by
            rw [z, lI_eq ⟨by omega, by omega⟩ ⟨by omega, by omega⟩]
            have : p * 2 ≤ p * p := Nat.mul_le_mul_left p hp2
            omega
          rw [if_neg ne]
          exact fin g z g1
        · have pl4 := hg p (ed_trans hpx hxX)
          have p7 : 7 ≤ p := by
            by_cases c7 : 7 ≤ p
            · exact c7
            · have : p = 4 := by omega
              rw [this] at hrp
              rcases hrp.2 2 ⟨2, rfl⟩ with z | z <;> omega
          obtain ⟨b, s, hsp⟩ := spl_ex p7 pl4 h31 hrp
          have k2 := (s_spl hN pl4 h31 hsp).2
          have nn := spl_norm hsp
          rw [if_pos (by rw [z, epp]), k2, Option.bind_some]
          refine fin (spA b s, (b : Int)) nn (ed_trans ⟨ec (spA b s, (b : Int)), ?_⟩ hpx)
          rw [em_ec, nn]
end WRI
/-- a number written: both sides have the same -/
theorem s_fac {N : Nat} (hN : 1048576 ≤ N) {n : Int × Int} (hn : kNum n.1 n.2) (h0 : n ≠ (0, 0)) : ∃ (L : List (Int × Int)) (t u : Nat), stL L ∧ (∀ y, y ∈ L → eb y) ∧ L.length ≤ 14 ∧ t < 20 ∧ u < 6 ∧ eit u (em (epr L) (e3 t)) = n ∧ (∀ (A B nn : Nat → Int64) (c : Int32) (z1 z2 z3 z4 z5 z6 z7 z8 z9 z10 z11 z12 z13 z14 : Int64) (z15 z16 : Nat → Int64) (fa fb pa pb : Int64), ∃ (A' B' n' : Nat → Int64) (z : Int32 × Int64 × Int64 × Int64 × Int64 × Int64 × Int64 × Int64 × Int64 × Int64 × Int64 × Int64 × Int64 × Int64 × Int64 × (Nat → Int64) × (Nat → Int64) × Int64 × Int64 × Int64 × Int64 × Int64 × Int64), rpC L A' B' n' ∧ f_X2_spell N A B nn c z1 z2 z3 z4 z5 z6 z7 z8 z9 z10 z11 z12 z13 z14 z15 z16 fa fb pa pb (lI n.1) (lI n.2) = some (nI L.length, nI t, nI u, A', B', n', z)) ∧ (∀ (pa pb pn : Nat → Int32), ∃ (th : Int32) (pa' pb' pn' : Nat → Int32), rpR L pa' pb' pn' ∧ f_X11_writes N (lI n.1) (lI n.2) pa pb pn = some (lI n.1, lI n.2, th, nI L.length, nI t, nI u, pa', pb', pn')) := by
  have hne : eb n := hn.eb
  obtain ⟨t, y, i, ht, hi, e, h3, hy, hp, k1, -, k3⟩ := s_threes hN h0 hne
  have y0 : y ≠ (0, 0) := fun z => by rw [z, em_zero'] at e; exact h0 e
  -- the reference
  obtain ⟨X, hXdef⟩ : ∃ X, X = eit i y := ⟨_, rfl⟩
  rw [← hXdef] at hp k3
  have dX := ed_eit i y
  rw [← hXdef] at dX
  have nX : en X = en y := by rw [hXdef, en_eit]
  have ebX : eb X := by unfold eb; rw [nX]; exact hy
  have X0 : X ≠ (0, 0) := fun z => by
    have := en_pos y0
    rw [z] at nX
    have z0 : en (0, 0) = 0 := rfl
    omega
  have X3 : (X.1 + X.2) % 3 ≠ 0 := by
    intro z
    have := en_m3.mpr z
    rw [nX] at this
    exact h3 (en_m3.mp this)
  obtain ⟨m, hm⟩ := en_nat X
  have mp := en_pos X0
  have ml : en X ≤ 300000000 := ebX
  have p29 : (2 : Nat) ^ 29 = 536870912 := by decide
  have R : ∀ (pa pb pn : Nat → Int32), ∃ (v : Int × Int) (L' : List (Int × Int)) (th' : Int32) (pa' pb' pn' : Nat → Int32), f_X11_writes N (lI n.1) (lI n.2) pa pb pn = f_X11_writes_216 N N (lI n.1) (lI n.2) 0 1 0 th' (nI L'.length) (nI t) pa' pb' pn' ∧ en v = 1 ∧ stL L' ∧ em (epr L') v = X ∧ rpR L' pa' pb' pn' := by
    intro pa pb pn
    obtain ⟨v, L', th', pa', pb', pn', r1, r2, r3, r4, r5⟩ := wr_loop hN ebX X0 X3 (fun r hr => g_bd hn h0 e (ed_trans hr dX.1)) (lI n.1) (lI n.2) (nI t) 29 m (by omega) (by omega) (by omega) X [] N (nI t) pa pb pn (by omega) hm ⟨List.Pairwise.nil, fun y hy => absurd hy (by simp)⟩ (by show em (1, 0) X = X; rw [em_one]) (fun k hk => absurd hk (by simp))
    refine ⟨v, L', th', pa', pb', pn', ?_, r2, r3, r4, r5⟩
    unfold f_X11_writes
    rw [k3, Option.bind_some]
    simp only []
    rw [s_normOf, Option.bind_some]
    have eng : nrm X.1 X.2 = (m : Int) := hm
    rw [eng]
    exact r1
  obtain ⟨v0, L, th0, pa0, pb0, pn0, -, w2, w3, w4, -⟩ := R (fun _ => 0) (fun _ => 0) (fun _ => 0)
  have dXL : ed X (epr L) := ⟨ec v0, by rw [← w4, em_assoc, en_unit w2, em_one']⟩
  have dLX : ed (epr L) X := ⟨v0, w4.symm⟩
  have sb := stL_eb w3 ebX X0 dLX
  -- the unit
  have dLy : ed (epr L) y := ed_trans dLX dX.1
  obtain ⟨v1, hv1⟩ := dLy
  have nv1 : en v1 = 1 := by
    have e1 := en_em (epr L) v1
    have e2 := en_em (epr L) v0
    rw [w4, w2, nX] at e2
    rw [← hv1, e2] at e1
    have pos := en_pos y0
    have h : en (epr L) * 1 = en (epr L) * en v1 := e1
    exact (Int.eq_of_mul_eq_mul_left (by omega) h).symm
  have en' : n = em (em (epr L) (e3 t)) v1 := by rw [em_assoc, em_comm (e3 t), ← em_assoc, ← hv1, ← e]
  obtain ⟨u, u1, u2, u3⟩ := unit_ex h0 nv1 en'
  have ebP : eb (em (epr L) (e3 t)) := by
    have : en (em (epr L) (e3 t)) = en n := by rw [← u2, en_eit]
    unfold eb
    rw [this]; exact hne
  refine ⟨L, t, u, w3, sb.1, sb.2, ht, u1, u2, ?_, ?_⟩
  · intro A B nn c z1 z2 z3 z4 z5 z6 z7 z8 z9 z10 z11 z12 z13 z14 z15 z16 fa fb pa pb
    obtain ⟨L1, v, A', B', n', s1, s2, s3, s4, s5⟩ := s_spell hN hn h0 ht e h3 hy k1 A B nn c z1 z2 z3 z4 z5 z6 z7 z8 z9 z10 z11 z12 z13 z14 z15 z16 fa fb pa pb
    have d1 : ed (epr L1) (epr L) := ed_trans (ed_trans ⟨v, s3.symm⟩ dX.2) dXL
    have d2 : ed (epr L) (epr L1) := ed_trans (ed_trans dLX dX.1) ⟨ec v, by rw [← s3, em_assoc, en_unit s2, em_one']⟩
    have eL : L1 = L := epr_uniq L1 L s1.2 w3.2 s1.1 w3.1 d1 d2
    subst eL
    obtain ⟨z, hz⟩ := s5 u u1 u2 u3
    exact ⟨A', B', n', z, s4, hz⟩
  · intro pa pb pn
    obtain ⟨v, L1, th', pa', pb', pn', r1, r2, r3, r4, r5⟩ := R pa pb pn
    have d1 : ed (epr L1) (epr L) := ed_trans ⟨v, r4.symm⟩ dXL
    have d2 : ed (epr L) (epr L1) := ed_trans dLX ⟨ec v, by rw [← r4, em_assoc, en_unit r2, em_one']⟩
    have eL : L1 = L := epr_uniq L1 L r3.2 w3.2 r3.1 w3.1 d1 d2
    subst eL
    refine ⟨th', pa', pb', pn', r5, ?_⟩
    rw [r1]
    exact wu_list hN r5 sb.1 sb.2 ht ebP hne u1 u2 u3 th' L1.length 0 (by omega) N (by omega)
