/-! ===== a number written: the class, whole divisors ===== -/
def stL (L : List (Int × Int)) : Prop := srt L ∧ ∀ y, y ∈ L → gp y
theorem stL_eb {L : List (Int × Int)} (h : stL L) {Y : Int × Int} (hY : eb Y) (h0 : Y ≠ (0, 0)) (hd : ed (epr L) Y) : (∀ y, y ∈ L → eb y) ∧ L.length ≤ 14 := by
  have le := en_ed_le hd h0
  have hb : en (epr L) ≤ 300000000 := Int.le_trans le hY
  constructor
  · intro y hy
    obtain ⟨s, t, e⟩ := List.append_of_mem hy
    have : ed y (epr L) := by
      rw [e, epr_app]
      exact ed_mull (ed_mul y (epr t)) _
    have h1 := en_ed_le (ed_trans this hd) h0
    exact Int.le_trans h1 hY
  · have l := epr_len L h.2
    by_cases c : L.length ≤ 14
    · exact c
    · exfalso
      have : 4 ^ 15 ≤ 4 ^ L.length := Nat.pow_le_pow_right (by decide) (by omega)
      have e : (4 : Nat) ^ 15 = 1073741824 := by decide
      omega
theorem l_rem0 {n q : Nat} (hn : n < 9223372036854775808) (hq : 1 ≤ q) (hq' : q < 9223372036854775808) : (lI n - lI n / lI q * lI q = 0) ↔ q ∣ n := by
  rw [lI_rem ⟨by omega, by omega⟩ ⟨by omega, by omega⟩, Int.tmod_eq_emod_of_nonneg (by omega)]
  have e : ((n : Int) % (q : Int)) = ((n % q : Nat) : Int) := by omega
  have l := Nat.mod_lt n (show 0 < q by omega)
  rw [e, lI_0 ⟨by omega, by omega⟩]
  constructor
  · intro z; exact Nat.dvd_of_mod_eq_zero (by omega)
  · intro z; have := Nat.mod_eq_zero_of_dvd z; omega
theorem l_div {n q : Nat} (hn : n < 9223372036854775808) (hq' : q < 9223372036854775808) : lI n / lI q = lI ((n / q : Nat) : Int) := by
  rw [lI_div ⟨by omega, by omega⟩ ⟨by omega, by omega⟩, Int.tdiv_eq_ediv_of_nonneg (by omega)]
  rfl
theorem l_mod3 {n : Nat} (hn : n < 9223372036854775808) (r : Nat) (hr : r < 3) : (lI n - lI n / 3 * 3 = lI (r : Int)) ↔ n % 3 = r := by
  rw [l3, lI_rem ⟨by omega, by omega⟩ ⟨by decide, by decide⟩, Int.tmod_eq_emod_of_nonneg (by omega), lI_eq ⟨by omega, by omega⟩ ⟨by omega, by omega⟩]
  omega
theorem en_q (q : Nat) : en ((q : Int), 0) = (q : Int) * q := by unfold en nrm; simp
theorem gp_split {p b s : Nat} (hp : rp p) (h3 : p % 3 = 1) (h : isSpl p b s) : gp (spA b s, (b : Int)) ∧ gp (ec (spA b s, (b : Int))) := by
  have e := spl_norm h
  obtain ⟨p1, p2⟩ := spl_prim h h3
  simp only [] at p1 p2
  refine ⟨⟨⟨p1, p2⟩, Or.inr ⟨p, hp, h3, e⟩⟩, ⟨⟨?_, ?_⟩, Or.inr ⟨p, hp, h3, by rw [en_ec]; exact e⟩⟩⟩
  · show (spA b s - b) % 3 = 2; omega
  · show (-(b : Int)) % 3 = 0; omega
theorem s_turn (x : Int × Int) : f_X5_turn (lI x.1) (lI x.2) = some (lI (ec x).1, lI (ec x).2) := by
  unfold f_X5_turn f_X5_set
  rw [lI_sub, lI_neg]; rfl
section SPW
variable {N : Nat}
theorem s_addWhole (hN : 1048576 ≤ N) {L : List (Int × Int)} (hs : stL L) {Y : Int × Int} (hY : eb Y) (h0 : Y ≠ (0, 0)) {q : Nat} (hq : rp q) (hq' : q ≤ 10000) (h3 : q % 3 ≠ 0) (hd : ed (em (epr L) ((q : Int), 0)) Y) {A B n : Nat → Int64} (hr : rpC L A B n) (fa fb : Int64) : ∃ (L' : List (Int × Int)) (A' B' n' : Nat → Int64) (fa' fb' : Int64), f_X2_addWhole N (lI q) (nI L.length) A B n fa fb = some (nI L'.length, A', B', n', fa', fb') ∧ rpC L' A' B' n' ∧ stL L' ∧ epr L' = em (epr L) ((q : Int), 0) := by
  have hq2 := hq.1
  have sb := stL_eb hs hY h0 (ed_trans (ed_mul _ _) hd)
  have qq : q * q ≤ 10000 * 10000 := Nat.mul_le_mul hq' hq'
  unfold f_X2_addWhole
  have m2 : (lI (q : Int) - lI (q : Int) / 3 * 3 = 2) ↔ q % 3 = 2 := l_mod3 (n := q) (by omega) 2 (by decide)
  by_cases c : q % 3 = 2
  · have g : gp ((q : Int), 0) := ⟨⟨by show (q : Int) % 3 = 2; omega, by show (0 : Int) % 3 = 0; omega⟩, Or.inl ⟨q, hq, c, rfl⟩⟩
    have ebq : eb ((q : Int), 0) := by unfold eb; rw [en_q]; have : (q : Int) * q = ((q * q : Nat) : Int) := rfl; omega
    obtain ⟨L', A', B', n', e, r, s, p, len, hP⟩ := s_insert (x := ((q : Int), 0)) hN hs.1 ebq sb.1 (by omega) hr
    rw [if_pos (m2.mpr c)]
    unfold f_X5_set
    rw [Option.bind_some, l0]
    simp only []
    rw [e, Option.bind_some]
    exact ⟨L', A', B', n', _, _, rfl, r, ⟨s, hP gp hs.2 g⟩, by rw [p, em_comm]⟩
  · have h31 : q % 3 = 1 := by omega
    have q7 : 7 ≤ q := by
      by_cases c7 : 7 ≤ q
      · exact c7
      · have : q = 4 := by omega
        rw [this] at hq
        rcases hq.2 2 ⟨2, rfl⟩ with z | z <;> omega
    obtain ⟨b, s, hs'⟩ := spl_ex q7 hq' h31 hq
    have sp := (s_spl hN hq' h31 hs').1 fa fb
    obtain ⟨g1, g2⟩ := gp_split hq h31 hs'
    have n1 := spl_norm hs'
    have eb1 : eb (spA b s, (b : Int)) := by unfold eb; rw [n1]; omega
    have eb2 : eb (ec (spA b s, (b : Int))) := by unfold eb; rw [en_ec, n1]; omega
    obtain ⟨L1, A1, B1, m1, e1, r1, s1, p1, len1, hP1⟩ := s_insert (x := (spA b s, (b : Int))) hN hs.1 eb1 sb.1 (by omega) hr
    obtain ⟨L2, A2, B2, m2', e2, r2, s2, p2, len2, hP2⟩ := s_insert (x := ec (spA b s, (b : Int))) hN s1 eb2 (hP1 eb sb.1 eb1) (by omega) r1
    rw [if_neg (fun z => c (m2.mp z)), lI_i, sp, Option.bind_some]
    simp only []
    have e1' : f_X2_insert N (nI L.length) A B n (lI (spA b s)) (lI (b : Int)) = some (nI L1.length, A1, B1, m1) := e1
    have st : f_X5_turn (lI (spA b s)) (lI (b : Int)) = some (lI (ec (spA b s, (b : Int))).1, lI (ec (spA b s, (b : Int))).2) := s_turn (spA b s, (b : Int))
    rw [e1', Option.bind_some, st, Option.bind_some]
    simp only []
    rw [e2, Option.bind_some]
    refine ⟨L2, A2, B2, m2', _, _, rfl, r2, ⟨s2, hP2 gp (hP1 gp hs.2 g1) g2⟩, ?_⟩
    have ecn : em (ec (spA b s, (b : Int))) (spA b s, (b : Int)) = ((q : Int), 0) := by rw [em_comm, em_ec, n1]
    rw [p2, p1, ← em_assoc, ecn, em_comm]
theorem ed_part {x y : Int × Int} {r q : Nat} (h : q ∣ r) (hd : ed (em x ((r : Int), 0)) y) : ed (em x ((q : Int), 0)) y := by
  obtain ⟨t, rfl⟩ := h
  refine ed_trans ⟨((t : Int), 0), ?_⟩ hd
  rw [em_assoc]
  congr 1
  exact e_ext (by simp [em]) (by simp [em])
theorem em_nat (q t : Nat) : em ((q : Int), 0) ((t : Int), 0) = (((q * t : Nat) : Int), 0) := e_ext (by simp [em]) (by simp [em])
/-- one whole number, as often as it divides -/
theorem sw_in (hN : 1048576 ≤ N) {Y : Int × Int} (hY : eb Y) (h0 : Y ≠ (0, 0)) (K : Int64 → Int64 → Int32 → (Nat → Int64) → (Nat → Int64) → (Nat → Int64) → Int64 → Int64 → Option (Int32 × (Nat → Int64) × (Nat → Int64) × (Nat → Int64) × Int64 × Int64)) {q : Nat} (hq2 : 2 ≤ q) (hq : q ≤ 100) : ∀ (j r : Nat), 1 ≤ r → r < 2 ^ j → r ≤ 10000 → r % 3 ≠ 0 → (∀ d, 2 ≤ d → d < q → ¬ d ∣ r) → ∀ (L : List (Int × Int)) (i f : Nat) (A B n : Nat → Int64) (fa fb : Int64), i + j < 32 → j < f → stL L → ed (em (epr L) ((r : Int), 0)) Y → rpC L A B n → ∃ (r' : Nat) (L' : List (Int × Int)) (A' B' n' : Nat → Int64) (fa' fb' : Int64), f_X2_spellWhole_29 N K f (lI r) (lI q) (nI i) (nI L.length) A B n fa fb = K (lI r') (lI ((q + 1 : Nat) : Int)) (nI L'.length) A' B' n' fa' fb' ∧ 1 ≤ r' ∧ r' ∣ r ∧ ¬ q ∣ r' ∧ stL L' ∧ em (epr L') ((r' : Int), 0) = em (epr L) ((r : Int), 0) ∧ rpC L' A' B' n' := by
  have e1 : lI (q : Int) + 1 = lI ((q + 1 : Nat) : Int) := by rw [l1, lI_add]; rfl
  have qn : ¬ lI (q : Int) = 0 := by rw [lI_0 ⟨by omega, by omega⟩]; omega
  intro j
  induction j with
  | zero => intro r h1 h2; simp at h2; omega
  | succ j ih =>
    intro r h1 h2 h3 h3' hnd L i f A B n fa fb hi hf hs hd hr
    obtain ⟨f, rfl⟩ : ∃ f', f = f' + 1 := ⟨f - 1, by omega⟩
    rw [f_X2_spellWhole_29, if_neg (nl32 (by omega)), if_neg qn]
    by_cases c : q ∣ r
    · obtain ⟨t, rfl⟩ := c
      have t0 : t ≠ 0 := fun z => by rw [z, Nat.mul_zero] at h1; omega
      have hqp : rp q := by
        refine ⟨hq2, fun d hd' => ?_⟩
        have l := Nat.le_of_dvd (by omega) hd'
        by_cases c1 : d = q
        · exact Or.inr c1
        · by_cases c2 : d < 2
          · left
            by_cases c3 : d = 0
            · subst c3; have := Nat.eq_zero_of_zero_dvd hd'; omega
            · omega
          · exact absurd (Nat.dvd_trans hd' ⟨t, rfl⟩) (hnd d (by omega) (by omega))
      have q3 : q % 3 ≠ 0 := by
        intro z
        have : (q * t) % 3 = 0 := by rw [Nat.mul_mod, z, Nat.zero_mul]
        omega
      obtain ⟨L1, A1, B1, m1, fa1, fb1, a1, a2, a3, a4⟩ := s_addWhole hN hs hY h0 hqp (by omega) q3 (ed_part ⟨t, rfl⟩ hd) hr fa fb
      have dv : q * t / q = t := Nat.mul_div_cancel_left t (by omega)
      rw [if_pos ((l_rem0 (by omega) (by omega) (by omega)).mpr ⟨t, rfl⟩), a1, Option.bind_some, if_neg qn, l_div (by omega) (by omega), dv, nI_1]
      have tl : t * 2 ≤ q * t := by rw [Nat.mul_comm q t]; exact Nat.mul_le_mul_left t hq2
      have eqr : em (epr L1) ((t : Int), 0) = em (epr L) (((q * t : Nat) : Int), 0) := by rw [a4, em_assoc, em_nat]
      have t3 : t % 3 ≠ 0 := by
        intro z
        have : (q * t) % 3 = 0 := by rw [Nat.mul_mod, z, Nat.mul_zero]
        omega
      obtain ⟨r', L', A', B', n', fa', fb', b1, b2, b3, b4, b5, b6, b7⟩ := ih t (by omega) (by rw [Nat.pow_succ] at h2; omega) (by omega) t3 (fun d d1 d2 d3 => hnd d d1 d2 (Nat.dvd_trans d3 ⟨q, Nat.mul_comm q t⟩)) L1 (i + 1) f A1 B1 m1 fa1 fb1 (by omega) (by omega) a3 (by rw [eqr]; exact hd) a2
      exact ⟨r', L', A', B', n', fa', fb', b1, b2, Nat.dvd_trans b3 ⟨q, Nat.mul_comm q t⟩, b4, b5, by rw [b6, eqr], b7⟩
    · rw [if_neg (fun z => c ((l_rem0 (by omega) (by omega) (by omega)).mp z)), e1]
      exact ⟨r, L, A, B, n, fa, fb, rfl, h1, Nat.dvd_refl r, c, hs, rfl, hr⟩
theorem sw_out (hN : 1048576 ≤ N) {Y : Int × Int} (hY : eb Y) (h0 : Y ≠ (0, 0)) : ∀ (j q : Nat), q + j = 101 → 2 ≤ q → ∀ (r : Nat), 1 ≤ r → r ≤ 10000 → r % 3 ≠ 0 → (∀ d, 2 ≤ d → d < q → ¬ d ∣ r) → ∀ (L : List (Int × Int)) (f : Nat) (A B n : Nat → Int64) (fa fb : Int64), j < f → stL L → ed (em (epr L) ((r : Int), 0)) Y → rpC L A B n → ∃ (L' : List (Int × Int)) (A' B' n' : Nat → Int64) (fa' fb' : Int64), f_X2_spellWhole_7 N f (lI r) (lI q) (nI L.length) A B n fa fb = some (nI L'.length, A', B', n', fa', fb') ∧ stL L' ∧ epr L' = em (epr L) ((r : Int), 0) ∧ rpC L' A' B' n' := by
  have last : ∀ (q r : Nat), 2 ≤ q → 1 ≤ r → r ≤ 10000 → r % 3 ≠ 0 → (∀ d, 2 ≤ d → d < q → ¬ d ∣ r) → r < q * q → ∀ (L : List (Int × Int)) (A B n : Nat → Int64) (fa fb : Int64), stL L → ed (em (epr L) ((r : Int), 0)) Y → rpC L A B n → ∃ (L' : List (Int × Int)) (A' B' n' : Nat → Int64) (fa' fb' : Int64), f_X2_spellWhole_71 N (lI r) (nI L.length) A B n fa fb = some (nI L'.length, A', B', n', fa', fb') ∧ stL L' ∧ epr L' = em (epr L) ((r : Int), 0) ∧ rpC L' A' B' n' := by
    intro q r hq2 h1 h2 h3 hnd hlt L A B n fa fb hs hd hr
    unfold f_X2_spellWhole_71
    by_cases c : r = 1
    · subst c
      rw [if_pos (by decide)]
      refine ⟨L, A, B, n, fa, fb, rfl, hs, ?_, hr⟩
      have : (((1 : Nat) : Int), (0 : Int)) = (1, 0) := rfl
      rw [this, em_one']
    · obtain ⟨k, hk⟩ := lp_ex (n := r) (by omega)
      have hkr : k = r := by
        rcases lp_sq (by omega) hk with z | z
        · exact z
        · exfalso
          have : q ≤ k := by
            by_cases c2 : q ≤ k
            · exact c2
            · exact absurd hk.2.1 (hnd k hk.1 (by omega))
          have := Nat.mul_le_mul this this
          omega
      have hrp := (lp_iff hk (by omega)).mpr hkr
      obtain ⟨L1, A1, B1, m1, fa1, fb1, a1, a2, a3, a4⟩ := s_addWhole hN hs hY h0 hrp h2 h3 hd hr fa fb
      rw [if_neg (by rw [l1, lI_le ⟨by omega, by omega⟩ ⟨by decide, by decide⟩]; omega), a1, Option.bind_some]
      exact ⟨L1, A1, B1, m1, fa1, fb1, rfl, a3, a4, a2⟩
  intro j
  induction j with
  | zero =>
    intro q hq hq2 r h1 h2 h3 hnd L f A B n fa fb hf hs hd hr
    obtain ⟨f, rfl⟩ : ∃ f', f = f' + 1 := ⟨f - 1, by omega⟩
    obtain rfl : q = 101 := by omega
    rw [f_X2_spellWhole_7, if_pos (by decide)]
    exact last 101 r (by omega) h1 h2 h3 hnd (by omega) L A B n fa fb hs hd hr
  | succ j ih =>
    intro q hq hq2 r h1 h2 h3 hnd L f A B n fa fb hf hs hd hr
    obtain ⟨f, rfl⟩ : ∃ f', f = f' + 1 := ⟨f - 1, by omega⟩
    have qq : q * q ≤ 100 * 100 := Nat.mul_le_mul (by omega) (by omega)
    have es : (q : Int) * (q : Int) = ((q * q : Nat) : Int) := rfl
    rw [f_X2_spellWhole_7, if_neg (by rw [show (100 : Int64) = lI 100 from rfl, lI_lt ⟨by decide, by decide⟩ ⟨by omega, by omega⟩]; omega), lI_mul, es]
    by_cases c : r < q * q
    · rw [if_pos ((lI_lt ⟨by omega, by omega⟩ ⟨by omega, by omega⟩).mpr (by omega))]
      exact last q r hq2 h1 h2 h3 hnd c L A B n fa fb hs hd hr
    · rw [if_neg (by rw [lI_lt ⟨by omega, by omega⟩ ⟨by omega, by omega⟩]; omega)]
      have p14 : (2 : Nat) ^ 14 = 16384 := by decide
      obtain ⟨r', L', A', B', n', fa', fb', b1, b2, b3, b4, b5, b6, b7⟩ := sw_in hN hY h0 (f_X2_spellWhole_7 N f) hq2 (by omega) 14 r h1 (by omega) h2 h3 hnd L 0 N A B n fa fb (by omega) (by omega) hs hd hr
      have b1' : f_X2_spellWhole_29 N (f_X2_spellWhole_7 N f) N (lI r) (lI q) 0 (nI L.length) A B n fa fb = _ := b1
      rw [b1']
      have r3 : r' % 3 ≠ 0 := by
        intro z
        exact h3 (Nat.mod_eq_zero_of_dvd (Nat.dvd_trans (Nat.dvd_of_mod_eq_zero z) b3))
      have rl := Nat.le_of_dvd (by omega) b3
      obtain ⟨L2, A2, B2, n2, fa2, fb2, d1, d2, d3, d4⟩ := ih (q + 1) (by omega) (by omega) r' b2 (by omega) r3 (fun d d1 d2 d3 => by
        by_cases c2 : d = q
        · rw [c2] at d3; exact b4 d3
        · exact hnd d d1 (by omega) (Nat.dvd_trans d3 b3)) L' f A' B' n' fa' fb' (by omega) b5 (by rw [b6]; exact hd) b7
      exact ⟨L2, A2, B2, n2, fa2, fb2, d1, d2, by rw [d3, b6], d4⟩
theorem s_whole (hN : 1048576 ≤ N) {Y : Int × Int} (hY : eb Y) (h0 : Y ≠ (0, 0)) {g : Nat} (h1 : 1 ≤ g) (h2 : g ≤ 10000) (h3 : g % 3 ≠ 0) (hd : ed ((g : Int), 0) Y) (A B n : Nat → Int64) (fa fb : Int64) : ∃ (L' : List (Int × Int)) (A' B' n' : Nat → Int64) (fa' fb' : Int64), f_X2_spellWhole N (lI g) 0 A B n fa fb = some (nI L'.length, A', B', n', fa', fb') ∧ stL L' ∧ epr L' = ((g : Int), 0) ∧ rpC L' A' B' n' := by
  obtain ⟨L', A', B', n', fa', fb', e, p1, p2, p3⟩ := sw_out hN hY h0 99 2 (by omega) (by omega) g h1 h2 h3 (fun d d1 d2 => by omega) [] N A B n fa fb (by omega) ⟨List.Pairwise.nil, fun y hy => absurd hy (by simp)⟩ (by show ed (em (1, 0) _) Y; rw [em_one]; exact hd) (fun k hk => absurd hk (by simp))
  refine ⟨L', A', B', n', fa', fb', e, p1, ?_, p3⟩
  rw [p2]
  show em (1, 0) _ = _
  rw [em_one]
end SPW
