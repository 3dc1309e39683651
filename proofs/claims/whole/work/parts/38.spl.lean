/-! ===== a whole prime of thirds as a norm ===== -/
def isSpl (p b s : Nat) : Prop := 0 < b ∧ b % 3 = 0 ∧ s * s + 3 * b * b = 4 * p ∧ ∀ b' : Nat, 0 < b' → b' < b → b' % 3 = 0 → ∀ s' : Nat, s' * s' + 3 * b' * b' ≠ 4 * p
/-- by digits of two -/
def isr (v : Nat) : Nat → Nat → Nat
  | 0, r => r
  | k + 1, r => if (r + 2 ^ k) * (r + 2 ^ k) ≤ v then isr v k (r + 2 ^ k) else isr v k r
def sp_chk (p : Nat) : Bool := decide (p % 3 ≠ 1) || (List.range 101).any (fun d => decide (2 ≤ d) && decide (d < p) && decide (p % d = 0)) || (List.range 39).any (fun j => decide (27 * (j + 1) * (j + 1) ≤ 4 * p) && decide (isr (4 * p - 27 * (j + 1) * (j + 1)) 8 0 * isr (4 * p - 27 * (j + 1) * (j + 1)) 8 0 + 27 * (j + 1) * (j + 1) = 4 * p))
theorem spk_two : ∀ i, i < 101 → ∀ j, j < 100 → (100 * i + j < 7 ∨ sp_chk (100 * i + j) = true) := by decide +kernel
theorem spk_all (p : Nat) (h : p < 10001) : p < 7 ∨ sp_chk p = true := by
  have := spk_two (p / 100) (by omega) (p % 100) (by omega)
  rw [show 100 * (p / 100) + p % 100 = p by omega] at this
  exact this
theorem spl_ex {p : Nat} (h7 : 7 ≤ p) (hp : p ≤ 10000) (h3 : p % 3 = 1) (hr : rp p) : ∃ b s, isSpl p b s := by
  have hc : sp_chk p = true := by
    rcases spk_all p (by omega) with z | z
    · omega
    · exact z
  unfold sp_chk at hc
  simp only [Bool.or_eq_true, decide_eq_true_eq, List.any_eq_true, List.mem_range, Bool.and_eq_true] at hc
  rcases hc with (z | ⟨d, -, ⟨d1, d2⟩, d3⟩) | ⟨j, -, j1, j2⟩
  · omega
  · rcases hr.2 d (Nat.dvd_of_mod_eq_zero d3) with z | z <;> omega
  · have P : ∃ s, s * s + 3 * (3 * (j + 1)) * (3 * (j + 1)) = 4 * p := ⟨isr (4 * p - 27 * (j + 1) * (j + 1)) 8 0, by
      have : 3 * (3 * (j + 1)) * (3 * (j + 1)) = 27 * (j + 1) * (j + 1) := by grind
      rw [this]; exact j2⟩
    obtain ⟨b, -, ⟨b1, b2, s, b3⟩, b4⟩ := least_ex (P := fun b => 0 < b ∧ b % 3 = 0 ∧ ∃ s, s * s + 3 * b * b = 4 * p) (3 * (j + 1)) ⟨by omega, by omega, P⟩
    exact ⟨b, s, b1, b2, b3, fun b' p1 p2 p3 s' e => b4 b' p2 ⟨p1, p3, s', e⟩⟩
theorem spl_uniq {p b s b' s' : Nat} (h : isSpl p b s) (h' : isSpl p b' s') : b = b' ∧ s = s' := by
  have e : b = b' := by
    by_cases c : b < b'
    · exact absurd h.2.2.1 (h'.2.2.2 b h.1 c h.2.1 s)
    · by_cases d : b' < b
      · exact absurd h'.2.2.1 (h.2.2.2 b' h'.1 d h'.2.1 s')
      · omega
  subst e
  refine ⟨rfl, ?_⟩
  have e2 : s * s = s' * s' := by have := h.2.2.1; have := h'.2.2.1; omega
  rcases Nat.lt_trichotomy s s' with c | c | c
  · have := Nat.mul_lt_mul'' c c; omega
  · exact c
  · have := Nat.mul_lt_mul'' c c; omega
/-- its primary number -/
def spA (b s : Nat) : Int := if ((b + s) / 2) % 3 = 2 then (((b + s) / 2 : Nat) : Int) else (b : Int) - (((b + s) / 2 : Nat) : Int)
theorem spl_par {p b s : Nat} (h : isSpl p b s) : (b + s) % 2 = 0 := by
  have e := h.2.2.1
  have h1 : (s * s + 3 * b * b) % 2 = 0 := by omega
  rcases Nat.mod_two_eq_zero_or_one b with cb | cb <;> rcases Nat.mod_two_eq_zero_or_one s with cs | cs
  · omega
  · exfalso
    have q1 : (s * s) % 2 = 1 := by rw [Nat.mul_mod, cs]
    have q2 : (3 * b * b) % 2 = 0 := by rw [Nat.mul_mod, cb, Nat.mul_zero]
    omega
  · exfalso
    have q1 : (s * s) % 2 = 0 := by rw [Nat.mul_mod, cs]
    have q2 : (3 * b * b) % 2 = 1 := by rw [Nat.mul_mod, Nat.mul_mod 3 b, cb]
    omega
  · omega
theorem spl_norm {p b s : Nat} (h : isSpl p b s) : en (spA b s, (b : Int)) = p := by
  have hp := spl_par h
  have e := h.2.2.1
  have e' : (s : Int) * s + 3 * b * b = 4 * p := by
    have := congrArg (fun n : Nat => (n : Int)) e
    simpa using this
  obtain ⟨t, ht⟩ : ∃ t : Nat, b + s = 2 * t := ⟨(b + s) / 2, by omega⟩
  have hs : (s : Int) = 2 * t - b := by omega
  have e2 : (b + s) / 2 = t := by omega
  unfold spA en
  rw [e2]
  unfold nrm
  rw [hs] at e'
  have k1 : 4 * ((t : Int) * t - t * b + b * b) = 4 * p := by rw [← e']; grind
  by_cases c : t % 3 = 2
  · simp only [c, if_true]; omega
  · simp only [c, if_false]
    have : ((b : Int) - t) * (b - t) - (b - t) * b + b * b = (t : Int) * t - t * b + b * b := by grind
    rw [this]; omega
theorem spl_prim {p b s : Nat} (h : isSpl p b s) (h3 : p % 3 = 1) : prim (spA b s, (b : Int)) := by
  have hb := h.2.1
  refine ⟨?_, by show (b : Int) % 3 = 0; omega⟩
  show spA b s % 3 = 2
  unfold spA
  by_cases c : ((b + s) / 2) % 3 = 2
  · simp only [c, if_true]; omega
  · simp only [c, if_false]
    have hp := spl_par h
    have e := h.2.2.1
    obtain ⟨t, ht⟩ : ∃ t : Nat, (b + s) / 2 = t := ⟨_, rfl⟩
    rw [ht] at c ⊢
    have c0 : t % 3 ≠ 0 := by
      intro z
      have hs : s % 3 = 0 := by omega
      obtain ⟨u, rfl⟩ : ∃ u, s = 3 * u := ⟨s / 3, by omega⟩
      have q : 3 * u * (3 * u) = 3 * (u * (3 * u)) := by grind
      have q2 : 3 * b * b = 3 * (b * b) := by grind
      omega
    omega
theorem spl_bd {p b s : Nat} (h : isSpl p b s) (hp : p ≤ 10000) : b ≤ 115 ∧ s ≤ 200 := by
  have e := h.2.2.1
  constructor
  · by_cases c : b ≤ 115
    · exact c
    · exfalso
      have := Nat.mul_le_mul (show 116 ≤ b by omega) (show 116 ≤ b by omega)
      have q : 3 * b * b = 3 * (b * b) := by grind
      omega
  · by_cases c : s ≤ 200
    · exact c
    · exfalso
      have := Nat.mul_le_mul (show 201 ≤ s by omega) (show 201 ≤ s by omega)
      omega
theorem e_4p {p b : Nat} : (4 : Int32) * iI p - ((3 : Int32) * iI b) * iI b = iI (4 * (p : Int) - 3 * (b : Int) * b) := by
  rw [show (4 : Int32) = iI 4 from rfl, show (3 : Int32) = iI 3 from rfl, iI_mul, iI_mul, iI_mul, iI_sub]
theorem half_ok {b s : Nat} (hb : b ≤ 115) (hs : s ≤ 200) : (iI (b : Int) + iI (s : Int)) / 2 = iI (((b + s) / 2 : Nat) : Int) := by
  rw [iI_add, show (2 : Int32) = iI 2 from rfl, iI_dv (by omega) ⟨by omega, by omega⟩ ⟨by decide, by decide⟩]
  congr 1
theorem si_loop {N : Nat} (hN : 1048576 ≤ N) {p b s : Nat} (hp : p ≤ 10000) (h3 : p % 3 = 1) (h : isSpl p b s) : ∀ (j c : Nat), c + 3 * j = b → 0 < c → ∀ (f : Nat) (near : Nat) (x y : Int64), j < f → near ≤ 40000 → f_X6_splitInto_4 N f (iI p) (iI near) (iI c) x y = some (lI (spA b s), lI b) := by
  have bd := spl_bd h hp
  have hb := h.2.1
  intro j
  induction j with
  | zero =>
    intro c hc c0 f near x y hf hn
    obtain ⟨f, rfl⟩ : ∃ f', f = f' + 1 := ⟨f - 1, by omega⟩
    obtain rfl : c = b := by omega
    have e := h.2.2.1
    have ei : 4 * (p : Int) - 3 * (c : Int) * c = ((s * s : Nat) : Int) := by
      have := congrArg (fun n : Nat => (n : Int)) e
      simp only [Int.natCast_add, Int.natCast_mul] at this ⊢
      simp only [Int.cast_ofNat_Int] at this
      omega
    have sq : isq (4 * (p : Int) - 3 * (c : Int) * c) s := ⟨by omega, by rw [ei, Int.natCast_mul]; omega, by rw [ei, Int.natCast_mul, sq_succ]; omega⟩
    have ssb : s * s ≤ 200 * 200 := Nat.mul_le_mul bd.2 bd.2
    have rr := s_rootFrom hN sq (by omega) (show (0 : Int) ≤ (near : Int) by omega) (by omega)
    have l4 : ¬ (4 : Int32) * iI p < (3 : Int32) * iI c * iI c := by
      rw [show (4 : Int32) = iI 4 from rfl, show (3 : Int32) = iI 3 from rfl, iI_mul, iI_mul, iI_mul]
      have cc : 3 * c * c ≤ 3 * 115 * 115 := Nat.mul_le_mul (by omega) bd.1
      have e3 : 3 * (c : Int) * c = ((3 * c * c : Nat) : Int) := by simp only [Int.natCast_mul]; rfl
      rw [e3, iI_lt ⟨by omega, by omega⟩ ⟨by omega, by omega⟩]
      omega
    have par := spl_par h
    have pr := spl_prim h h3
    have hA := half_ok bd.1 bd.2
    rw [f_X6_splitInto_4, if_neg (by rw [show (200 : Int32) = iI 200 from rfl, iI_le ⟨by decide, by decide⟩ ⟨by omega, by omega⟩]; omega), if_neg l4, e_4p, rr, Option.bind_some, iI_mul, if_pos (by rw [ei, Int.natCast_mul]), hA]
    unfold f_X5_set
    rw [Option.bind_some, iI_l ⟨by omega, by omega⟩, iI_l ⟨by omega, by omega⟩]
    simp only []
    have ip : f_X5_isPrimary (lI (((c + s) / 2 : Nat) : Int)) (lI (c : Int)) = some (if ((c + s) / 2) % 3 = 2 then 1 else 0) := by
      rw [s_isPrimary ⟨by omega, by omega⟩ ⟨by omega, by omega⟩]
      by_cases cp : ((c + s) / 2) % 3 = 2
      · rw [if_pos cp, if_pos (show (((c + s) / 2 : Nat) : Int) % 3 = 2 ∧ (c : Int) % 3 = 0 by omega)]
      · rw [if_neg cp, if_neg (show ¬ ((((c + s) / 2 : Nat) : Int) % 3 = 2 ∧ (c : Int) % 3 = 0) by omega)]
    rw [ip, Option.bind_some]
    have hA2 : (iI (c : Int) - iI (s : Int)) / 2 = iI ((c : Int) - (((c + s) / 2 : Nat) : Int)) := by
      rw [iI_sub, show (2 : Int32) = iI 2 from rfl, iI_div ⟨by omega, by omega⟩ ⟨by decide, by decide⟩]
      congr 1
      have q : (c : Int) - s = 2 * ((c : Int) - (((c + s) / 2 : Nat) : Int)) := by omega
      rw [q, Int.mul_tdiv_cancel_left _ (by decide)]
    unfold spA
    by_cases cp : ((c + s) / 2) % 3 = 2
    · simp only [cp, if_true, z10, if_false]
    · simp only [cp, if_false, if_true, Option.bind_some, hA2]
      rw [iI_l ⟨by omega, by omega⟩]
  | succ j ih =>
    intro c hc c0 f near x y hf hn
    obtain ⟨f, rfl⟩ : ∃ f', f = f' + 1 := ⟨f - 1, by omega⟩
    have e := h.2.2.1
    have cb : 3 * c * c ≤ 3 * b * b := Nat.mul_le_mul (by omega) (by omega)
    have cc : 3 * c * c ≤ 3 * 115 * 115 := Nat.mul_le_mul (by omega) (by omega)
    have e3 : 3 * (c : Int) * c = ((3 * c * c : Nat) : Int) := by simp only [Int.natCast_mul]; rfl
    obtain ⟨t, sq⟩ := isq_ex (v := 4 * (p : Int) - 3 * (c : Int) * c) (by rw [e3]; omega)
    have sq' := sq
    obtain ⟨t0, t1, t2⟩ := sq'
    have tl : t ≤ 200 := isq_le sq (by decide) (by rw [e3]; omega)
    obtain ⟨t, rfl⟩ := Int.eq_ofNat_of_zero_le t0
    have rr := s_rootFrom hN sq (by rw [e3]; omega) (show (0 : Int) ≤ (near : Int) by omega) (by omega)
    have l4 : ¬ (4 : Int32) * iI p < (3 : Int32) * iI c * iI c := by
      rw [show (4 : Int32) = iI 4 from rfl, show (3 : Int32) = iI 3 from rfl, iI_mul, iI_mul, iI_mul, e3, iI_lt ⟨by omega, by omega⟩ ⟨by omega, by omega⟩]
      omega
    have ne : ¬ iI ((t : Int) * t) = iI (4 * (p : Int) - 3 * (c : Int) * c) := by
      have tt : t * t ≤ 200 * 200 := Nat.mul_le_mul (by omega) (by omega)
      have et : (t : Int) * t = ((t * t : Nat) : Int) := rfl
      rw [et, e3, iI_eq ⟨by omega, by omega⟩ ⟨by omega, by omega⟩]
      intro z
      exact h.2.2.2 c c0 (by omega) (by omega) t (by omega)
    rw [f_X6_splitInto_4, if_neg (by rw [show (200 : Int32) = iI 200 from rfl, iI_le ⟨by decide, by decide⟩ ⟨by omega, by omega⟩]; omega), if_neg l4, e_4p, rr, Option.bind_some, iI_mul, if_neg ne, show (3 : Int32) = iI 3 from rfl, iI_add]
    exact ih (c + 3) (by omega) (by omega) f t x y (by omega) (by omega)
theorem sr_loop {N : Nat} (hN : 1048576 ≤ N) {p b s : Nat} (hp : p ≤ 10000) (h3 : p % 3 = 1) (h : isSpl p b s) : ∀ (j c : Nat), c + 3 * j = b → 0 < c → ∀ (f t : Nat), j < f → isq (4 * (p : Int) - 3 * (c : Int) * c) t → f_X11_splits_15 N f (iI p) (iI c) (iI t) = some (lI (spA b s), lI b) := by
  have bd := spl_bd h hp
  have hb := h.2.1
  intro j
  induction j with
  | zero =>
    intro c hc c0 f t hf ht
    obtain ⟨f, rfl⟩ : ∃ f', f = f' + 1 := ⟨f - 1, by omega⟩
    obtain rfl : c = b := by omega
    have e := h.2.2.1
    have ei : 4 * (p : Int) - 3 * (c : Int) * c = ((s * s : Nat) : Int) := by
      have := congrArg (fun n : Nat => (n : Int)) e
      simp only [Int.natCast_add, Int.natCast_mul] at this ⊢
      simp only [Int.cast_ofNat_Int] at this
      omega
    have ts : t = s := by
      have := isq_eq ht (s := (s : Int)) (by omega) (by rw [ei, Int.natCast_mul])
      omega
    subst ts
    have hA := half_ok bd.1 bd.2
    rw [f_X11_splits_15, iI_mul, e_4p, if_pos (by rw [ei, Int.natCast_mul]), hA, iI_l ⟨by omega, by omega⟩, iI_l ⟨by omega, by omega⟩]
    have r3 := s_rest (a := (((c + t) / 2 : Nat) : Int)) (m := 3) ⟨by omega, by omega⟩ (by decide) ⟨by decide, by decide⟩
    rw [← l3] at r3
    rw [r3, Option.bind_some, iI_sub, iI_l ⟨by omega, by omega⟩]
    unfold f_X11_sets spA
    have q2 : (lI ((((c + t) / 2 : Nat) : Int) % 3) = 2) = (((c + t) / 2) % 3 = 2) := by
      rw [l2]
      exact propext ((lI_eq ⟨by omega, by omega⟩ ⟨by decide, by decide⟩).trans (by omega))
    simp only [q2, Option.bind_some]
    by_cases cp : ((c + t) / 2) % 3 = 2
    · rw [if_pos cp, if_pos cp]
    · rw [if_neg cp, if_neg cp]
  | succ j ih =>
    intro c hc c0 f t hf ht
    obtain ⟨f, rfl⟩ : ∃ f', f = f' + 1 := ⟨f - 1, by omega⟩
    have e := h.2.2.1
    have cc : 3 * c * c ≤ 3 * 115 * 115 := Nat.mul_le_mul (by omega) (by omega)
    have e3 : 3 * (c : Int) * c = ((3 * c * c : Nat) : Int) := by simp only [Int.natCast_mul]; rfl
    have cb' : 3 * (c + 3) * (c + 3) ≤ 3 * b * b := Nat.mul_le_mul (by omega) (by omega)
    have cc' : 3 * (c + 3) * (c + 3) ≤ 3 * 115 * 115 := Nat.mul_le_mul (by omega) (by omega)
    have e3' : 3 * ((c + 3 : Nat) : Int) * ((c + 3 : Nat) : Int) = ((3 * (c + 3) * (c + 3) : Nat) : Int) := by simp only [Int.natCast_mul]; rfl
    have tl : (t : Int) ≤ 200 := isq_le ht (by decide) (by rw [e3]; omega)
    have ne : ¬ iI ((t : Int) * t) = iI (4 * (p : Int) - 3 * (c : Int) * c) := by
      have tt : t * t ≤ 200 * 200 := Nat.mul_le_mul (by omega) (by omega)
      have et : (t : Int) * t = ((t * t : Nat) : Int) := rfl
      rw [et, e3, iI_eq ⟨by omega, by omega⟩ ⟨by omega, by omega⟩]
      intro z
      exact h.2.2.2 c c0 (by omega) (by omega) t (by omega)
    obtain ⟨t', sq⟩ := isq_ex (v := 4 * (p : Int) - 3 * ((c + 3 : Nat) : Int) * ((c + 3 : Nat) : Int)) (by rw [e3']; omega)
    have t0 := sq.1
    obtain ⟨t', rfl⟩ := Int.eq_ofNat_of_zero_le t0
    have rr := s_rootOf hN sq (by rw [e3']; omega)
    have ea : iI (c : Int) + (3 : Int32) = iI ((c + 3 : Nat) : Int) := by rw [show (3 : Int32) = iI 3 from rfl, iI_add]; rfl
    rw [f_X11_splits_15, iI_mul, e_4p, if_neg ne, ea, e_4p, rr, Option.bind_some]
    exact ih (c + 3) (by omega) (by omega) f t' (by omega) sq
theorem s_spl {N : Nat} (hN : 1048576 ≤ N) {p b s : Nat} (hp : p ≤ 10000) (h3 : p % 3 = 1) (h : isSpl p b s) : (∀ x y : Int64, f_X6_splitInto N (iI p) x y = some (lI (spA b s), lI b)) ∧ f_X11_splits N (iI p) = some (lI (spA b s), lI b) := by
  have bd := spl_bd h hp
  have hb := h.2.1
  have hb0 := h.1
  constructor
  · intro x y
    exact si_loop hN hp h3 h ((b - 3) / 3) 3 (by omega) (by omega) N 0 x y (by omega) (by omega)
  · have e := h.2.2.1
    have cb : 3 * 3 * 3 ≤ 3 * b * b := Nat.mul_le_mul (by omega) (by omega)
    obtain ⟨t, sq⟩ := isq_ex (v := 4 * (p : Int) - 3 * ((3 : Nat) : Int) * ((3 : Nat) : Int)) (by omega)
    obtain ⟨t, rfl⟩ := Int.eq_ofNat_of_zero_le sq.1
    have rr := s_rootOf hN sq (by omega)
    have e4 : (4 : Int32) * iI p - ((3 : Int32) * (3 : Int32)) * (3 : Int32) = iI (4 * (p : Int) - 3 * ((3 : Nat) : Int) * ((3 : Nat) : Int)) := e_4p (b := 3)
    unfold f_X11_splits
    rw [e4, rr, Option.bind_some]
    exact sr_loop hN hp h3 h ((b - 3) / 3) 3 (by omega) (by omega) N t (by omega) sq
theorem q_split (N : Nat) (hN : 1048576 ≤ N) (v1 v2 : Int32) (m_drawers_full m_drawers_kept : Int32) (m_drawers_partA m_drawers_partB m_drawers_keptA m_drawers_keptB m_drawers_keptFull : Nat → Int32) (m_tape_size : Int32) (m_tape_bytes : Nat → Int32) (m_primes_count : Int32) (m_primes_primeA m_primes_primeB : Nat → Int32) (m_out_a m_out_b : Int64) (m_taped m_states : Int32) (m_ra m_rb : Int64) (m_listed : Int32) (m_tape m_has m_keptHas m_first m_second m_keptFirst m_keptSecond m_la0 m_lb0 : Nat → Int32) (hR : kR m_drawers_full m_drawers_kept m_drawers_partA m_drawers_partB m_drawers_keptA m_drawers_keptB m_drawers_keptFull m_tape_size m_tape_bytes m_primes_count m_primes_primeA m_primes_primeB m_taped m_tape m_has m_keptHas m_first m_second m_keptFirst m_keptSecond m_states m_la0 m_lb0 m_listed) : ∃ (y : Int32 × Int32 × (Nat → Int32) × (Nat → Int32) × Int64 × Int64) (z : Int32 × Int64 × Int64 × (Nat → Int32) × (Nat → Int32) × (Nat → Int32)), f_X10_split N v1 v2 m_drawers_full m_drawers_partA m_drawers_partB m_out_a m_out_b = some y ∧ f_X11_split N v1 v2 m_ra m_rb m_has m_first m_second = some z ∧ y.1 = z.1 ∧ kR y.2.1 m_drawers_kept y.2.2.1 y.2.2.2.1 m_drawers_keptA m_drawers_keptB m_drawers_keptFull m_tape_size m_tape_bytes m_primes_count m_primes_primeA m_primes_primeB m_taped m_tape z.2.2.2.1 m_keptHas z.2.2.2.2.1 z.2.2.2.2.2 m_keptFirst m_keptSecond m_states m_la0 m_lb0 m_listed := by
  have hR0 := hR
  obtain ⟨⟨dr, hD⟩, hK, hT, hP⟩ := hR
  unfold f_X10_split f_X11_split
  obtain ⟨t, e1, e2, ht⟩ := s_third hN v1
  rw [e1, e2, Option.bind_some, Option.bind_some]
  rcases ht with rfl | ⟨rfl, p, rfl, p1, p2, p3, p4⟩
  · rw [if_pos rfl, if_pos rfl]
    exact ⟨_, _, rfl, rfl, rfl, hR0⟩
  · rw [if_neg j1, if_neg j1]
    rcases dr_cases v2 with h1 | ⟨i, hi, rfl⟩
    · simp only [(dr_out h1).1, (dr_out h1).2, Option.bind_some, z00, if_true]
      exact ⟨_, _, rfl, rfl, rfl, hR0⟩
    · obtain ⟨b, s, hs⟩ := spl_ex p1 (by omega) p3 p4
      have bd := spl_bd hs (by omega)
      obtain ⟨k1, k2⟩ := s_spl hN (by omega) p3 hs
      have hA : -9999 ≤ spA b s ∧ spA b s ≤ 9999 := by
        unfold spA
        by_cases c : ((b + s) / 2) % 3 = 2
        · rw [if_pos c]; omega
        · rw [if_neg c]; omega
      have hn : kNum (spA b s) b := ⟨hA.1, hA.2, by omega, by omega⟩
      simp only [(dr_in hi).1, (dr_in hi).2, Option.bind_some, z10, if_false, k1, k2, s_fill hi, s_puts hi, lI_i, dr_cl hi, dr_n0 hi, dr_8 hi, or_self]
      refine ⟨_, _, rfl, rfl, ?_, ⟨_, kRow_fill hD hi hn⟩, hK, hT, hP⟩
      show iI (b : Int) = upd m_second i (iI b) i
      unfold upd
      rw [if_pos rfl]
