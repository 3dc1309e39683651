/-! ===== middle ===== -/
def pv : Option (Int × Int) → Bool → Int
  | some p, b => if b = true then p.2 else p.1
  | none, _ => 0
def mc (dr : Nat → Option (Int × Int)) : Nat → Nat
  | 0 => 0
  | i + 1 => mc dr i + (if (dr i).isSome = true then 1 else 0)
def ms (dr : Nat → Option (Int × Int)) (b : Bool) : Nat → Int
  | 0 => 0
  | i + 1 => ms dr b i + pv (dr i) b
theorem mc_le (dr : Nat → Option (Int × Int)) : ∀ i : Nat, mc dr i ≤ i := by
  intro i
  induction i with
  | zero => exact Nat.le_refl _
  | succ i ih =>
    show mc dr i + (if (dr i).isSome = true then 1 else 0) ≤ i + 1
    split <;> omega
section MID
variable {full : Int32} {pA pB has fst snd : Nat → Int32} {dr : Nat → Option (Int × Int)}
theorem pv_b (hD : kRow full pA pB has fst snd 0 dr) (b : Bool) {i : Nat} (hi : i < 8) : -9999 ≤ pv (dr i) b ∧ pv (dr i) b ≤ 9999 := by
  cases e : dr i with
  | none =>
    show (-9999 : Int) ≤ 0 ∧ (0 : Int) ≤ 9999
    decide
  | some p =>
    obtain ⟨c, d⟩ := p
    obtain ⟨⟨q1, q2, q3, q4⟩, -⟩ := hD.num hi e
    cases b
    · exact ⟨q1, q2⟩
    · exact ⟨q3, q4⟩
theorem ms_b (hD : kRow full pA pB has fst snd 0 dr) (b : Bool) : ∀ i : Nat, i ≤ 8 → -(9999 * (i : Int)) ≤ ms dr b i ∧ ms dr b i ≤ 9999 * (i : Int) := by
  intro i
  induction i with
  | zero =>
    intro _
    show -(9999 * ((0 : Nat) : Int)) ≤ (0 : Int) ∧ (0 : Int) ≤ 9999 * ((0 : Nat) : Int)
    decide
  | succ i ih =>
    intro hi
    have h := ih (by omega)
    have p := pv_b hD b (i := i) (by omega)
    show -(9999 * ((i + 1 : Nat) : Int)) ≤ ms dr b i + pv (dr i) b ∧ ms dr b i + pv (dr i) b ≤ 9999 * ((i + 1 : Nat) : Int)
    omega
theorem mr_loop (hD : kRow full pA pB has fst snd 0 dr) {N : Nat} (v1 : Int32) (mb : Int64) (mp : Int32) : ∀ (j i : Nat), i + j = 8 → ∀ f : Nat, f_X11_middle_7 N (f + j) v1 (nI (mc dr i)) (iI (ms dr (decide (¬ v1 = 0)) i)) (nI i) mb mp has fst snd = f_X11_middle_7 N f v1 (nI (mc dr 8)) (iI (ms dr (decide (¬ v1 = 0)) 8)) (nI 8) mb mp has fst snd := by
  intro j
  induction j with
  | zero =>
    intro i hi f
    obtain rfl : i = 8 := by omega
    rfl
  | succ j ih =>
    intro i hi f
    have hj : i < 8 := by omega
    have e8 : ¬ (8 : Int32) ≤ nI i := nI_ge hj (by decide)
    have ih' := ih (i + 1) (by omega) f
    have m1 : mc dr (i + 1) = mc dr i + (if (dr i).isSome = true then 1 else 0) := rfl
    have m2 : ms dr (decide (¬ v1 = 0)) (i + 1) = ms dr (decide (¬ v1 = 0)) i + pv (dr i) (decide (¬ v1 = 0)) := rfl
    have ok : ¬ (nI i < 0 ∨ 8 ≤ i) := by
      intro z
      rcases z with z | z
      · exact nI_pos (by omega) z
      · omega
    rw [m1, m2] at ih'
    rw [show f + (j + 1) = (f + j) + 1 by omega, f_X11_middle_7, if_neg e8, dr_cl hj, if_neg ok, nI_1]
    cases e : dr i with
    | none =>
      rw [e] at ih'
      rw [hD.hasN hj e, if_pos rfl]
      have p0 : ms dr (decide (¬ v1 = 0)) i + pv none (decide (¬ v1 = 0)) = ms dr (decide (¬ v1 = 0)) i := Int.add_zero _
      rw [p0] at ih'
      exact ih'
    | some p =>
      obtain ⟨c, d⟩ := p
      obtain ⟨hn, -, -, f1, g1⟩ := hD.num hj e
      rw [e] at ih'
      rw [hD.has1 hj e, if_neg j1, f1, g1, nI_1, iI_add, iI_add, if_neg ok, if_neg ok]
      by_cases c0 : v1 = 0
      · have p0 : pv (some (c, d)) (decide (¬ v1 = 0)) = c := by rw [decide_eq_false (fun z => z c0)]; rfl
        rw [p0] at ih'
        rw [if_pos c0]
        exact ih'
      · have p0 : pv (some (c, d)) (decide (¬ v1 = 0)) = d := by rw [decide_eq_true c0]; rfl
        rw [p0] at ih'
        rw [if_neg c0]
        exact ih'
theorem fi_ok {i : Int} {a : UInt32} (h : FP.Core.FInt i a) : a &&& 0x7fffffff ≤ 0x7f800000 := by
  unfold FP.Core.FInt at h
  cases e : FP.Core.val32 a with
  | nan => rw [e] at h; exact h.elim
  | inf s => rw [e] at h; exact h.elim
  | fin s c q => exact fl_ok e
theorem fi_of {z : Int} (h : -9999 ≤ z ∧ z ≤ 9999) : FP.Core.FInt z (FP.i2f (iI z)) := by
  have e : (iI z).toInt = z := iI_toInt ⟨by omega, by omega⟩
  have := FP.Core.i2f_int (a := iI z) (by rw [e]; omega)
  rw [e] at this
  exact this
theorem mcl_loop (hD : kRow full pA pB has fst snd 0 dr) {N : Nat} (v1 : Int32) : ∀ (j i : Nat), i + j = 8 → ∀ (f : Nat) (g : UInt32) (oa ob : Int64), FP.Core.FInt (ms dr (decide (¬ v1 = 0)) i) g → ∃ (g' : UInt32) (oa' ob' : Int64), FP.Core.FInt (ms dr (decide (¬ v1 = 0)) 8) g' ∧ f_X10_middle_19 N (f + j) v1 g (nI (mc dr i)) (nI i) full pA pB oa ob = f_X10_middle_19 N f v1 g' (nI (mc dr 8)) (nI 8) full pA pB oa' ob' := by
  intro j
  induction j with
  | zero =>
    intro i hi f g oa ob hg
    obtain rfl : i = 8 := by omega
    exact ⟨g, oa, ob, hg, rfl⟩
  | succ j ih =>
    intro i hi f g oa ob hg
    have hj : i < 8 := by omega
    have e8 : ¬ (8 : Int32) ≤ nI i := nI_ge hj (by decide)
    have m1 : mc dr (i + 1) = mc dr i + (if (dr i).isSome = true then 1 else 0) := rfl
    have m2 : ms dr (decide (¬ v1 = 0)) (i + 1) = ms dr (decide (¬ v1 = 0)) i + pv (dr i) (decide (¬ v1 = 0)) := rfl
    have bm := ms_b hD (decide (¬ v1 = 0)) (i + 1) (by omega)
    have bp := pv_b hD (decide (¬ v1 = 0)) hj
    have ih' := ih (i + 1) (by omega) f
    rw [m1, m2] at ih'
    rw [m2] at bm
    rw [show f + (j + 1) = (f + j) + 1 by omega, f_X10_middle_19, if_neg e8, nI_1]
    cases e : dr i with
    | none =>
      rw [e] at ih'
      rw [s_has0 hD hj e, Option.bind_some, if_pos rfl]
      have p0 : ms dr (decide (¬ v1 = 0)) i + pv none (decide (¬ v1 = 0)) = ms dr (decide (¬ v1 = 0)) i := Int.add_zero _
      rw [p0] at ih'
      exact ih' g oa ob hg
    | some p =>
      obtain ⟨c, d⟩ := p
      rw [e] at ih' bm bp
      have pt : f_X10_part v1 (lI c) (lI d) = some (iI (pv (some (c, d)) (decide (¬ v1 = 0)))) := by
        unfold f_X10_part
        by_cases c0 : v1 = 0
        · rw [if_pos c0, lI_i, decide_eq_false (fun z => z c0)]; rfl
        · rw [if_neg c0, lI_i, decide_eq_true c0]; rfl
      have fi := FP.Core.fadd_int hg (fi_of bp) (by omega)
      have fo : (FP.fadd g (FP.i2f (iI (pv (some (c, d)) (decide (¬ v1 = 0)))))) &&& 0x7fffffff ≤ 0x7f800000 := fi_ok fi
      rw [s_has1 hD hj e, Option.bind_some, if_neg j1, s_load hD hj e, Option.bind_some]
      simp only []
      rw [pt, Option.bind_some, if_pos fo, nI_1]
      exact ih' _ _ _ fi
end MID
theorem rr_small {n j : Nat} (s : Bool) (j2 : 8388608 ≤ n * 2 ^ j) (j3 : n * 2 ^ j < 16777216) (hj : j ≤ 23) : FP.Core.roundRatio FP.Core.b32 s n 1 0 = .fin s (n * 2 ^ j) (-(j : Int)) := by
  refine FP.Core.roundRatio_exact FP.Core.good_b32 (by decide) ⟨?_, ?_, ?_, Or.inr ?_⟩ ?_
  · exact j3
  · show (-149 : Int) ≤ -(j : Int)
    omega
  · show -(j : Int) ≤ (104 : Int)
    omega
  · exact j2
  · rw [show (0 - -(j : Int)).toNat = j by omega, show (-(j : Int) - 0).toNat = 0 by omega, Nat.pow_zero, Nat.mul_one, Nat.mul_one]
theorem fi_small {S : Int} {g : UInt32} (h : FP.Core.FInt S g) (h0 : S ≠ 0) (hS : S.natAbs < 16777216) : ∃ j : Nat, j ≤ 23 ∧ FP.Core.val32 g = .fin (decide (S < 0)) (S.natAbs * 2 ^ j) (-(j : Int)) := by
  obtain ⟨j, q1, q2, q3⟩ := log_ex (n := S.natAbs) (by omega) hS
  refine ⟨j, q1, ?_⟩
  unfold FP.Core.FInt at h
  have fit := FP.Core.val32_fits g
  cases e : FP.Core.val32 g with
  | nan => rw [e] at h; exact h.elim
  | inf s => rw [e] at h; exact h.elim
  | fin s c q =>
    rw [e] at h fit
    have r1 := FP.Core.round_of_fits FP.Core.good_b32 fit
    rw [FP.Core.round_whole h, FP.Core.whole_sign h h0, rr_small _ q2 q3 q1] at r1
    rw [FP.Core.whole_sign h h0]
    exact r1.symm
/-- the middle of n numbers of sum S, not 0 -/
theorem mid_end {N : Nat} (hN : 1048576 ≤ N) {S : Int} {g : UInt32} (h : FP.Core.FInt S g) (h0 : S ≠ 0) (hS : -79992 ≤ S ∧ S ≤ 79992) {n : Nat} (n1 : 1 ≤ n) (n8 : n ≤ 8) : (FP.fdiv g (FP.i2f (nI n))) &&& 0x7fffffff ≤ 0x7f800000 ∧ (FP.fmul (FP.fdiv g (FP.i2f (nI n))) (1120403456 : UInt32)) &&& 0x7fffffff ≤ 0x7f800000 ∧ ∃ y, f_X11_middle_117 N (iI S) (lI ((S.natAbs * 2 ^ 38 / n : Nat) : Int)) (-38 : Int32) (bI (decide (S.natAbs * 2 ^ 38 % n ≠ 0))) = some (FP.f2i (FP.fmul (FP.fdiv g (FP.i2f (nI n))) (1120403456 : UInt32)), y) := by
  obtain ⟨j, j1', hg⟩ := fi_small h h0 (by omega)
  have hn : FP.Core.FInt (n : Int) (FP.i2f (nI n)) := by rw [iI_nI]; exact fi_of ⟨by omega, by omega⟩
  obtain ⟨l, l1, hd⟩ := fi_small hn (by omega) (by omega)
  rw [Int.natAbs_natCast, decide_eq_false (show ¬ (n : Int) < 0 by omega)] at hd
  obtain ⟨A, hA⟩ : ∃ A, A = S.natAbs := ⟨_, rfl⟩
  obtain ⟨s, hs⟩ : ∃ s, s = decide (S < 0) := ⟨_, rfl⟩
  rw [← hA] at hg ⊢
  rw [← hs] at hg
  have A1 : 1 ≤ A := by omega
  have A2 : A ≤ 79992 := by omega
  have pl := Nat.two_pow_pos l
  have e : FP.Core.val32 (FP.fdiv g (FP.i2f (nI n))) = FP.Core.quotient FP.Core.b32 (FP.Core.val32 g) (FP.Core.val32 (FP.i2f (nI n))) := FP.Core.val32_fdiv g _
  have es : (s != false) = s := by cases s <;> rfl
  have nl0 : ¬ n * 2 ^ l = 0 := by
    have := Nat.mul_pos (show 0 < n by omega) pl
    omega
  have e2 : FP.Core.quotient FP.Core.b32 (.fin s (A * 2 ^ j) (-(j : Int))) (.fin false (n * 2 ^ l) (-(l : Int))) = FP.Core.roundRatio FP.Core.b32 s (A * 2 ^ 38) n (-38) := by
    show (if n * 2 ^ l = 0 then _ else FP.Core.roundRatio FP.Core.b32 (s != false) (A * 2 ^ j) (n * 2 ^ l) (-(j : Int) - -(l : Int))) = _
    rw [if_neg nl0, es]
    refine FP.Core.roundRatio_congr (by omega) (by omega) ?_
    rw [show (-(j : Int) - -(l : Int) - -38).toNat = l + 38 - j by omega, show (-38 - (-(j : Int) - -(l : Int))).toNat = 0 by omega, Nat.pow_zero, Nat.mul_one]
    have pp : 2 ^ j * 2 ^ (l + 38 - j) = 2 ^ 38 * 2 ^ l := by rw [← Nat.pow_add, ← Nat.pow_add]; congr 1; omega
    calc A * 2 ^ j * n * 2 ^ (l + 38 - j) = A * n * (2 ^ j * 2 ^ (l + 38 - j)) := by ac_rfl
      _ = A * n * (2 ^ 38 * 2 ^ l) := by rw [pp]
      _ = A * 2 ^ 38 * (n * 2 ^ l) := by ac_rfl
  rw [hg, hd, e2] at e
  have q1 : 34359738368 ≤ A * 2 ^ 38 / n := by
    rw [Nat.le_div_iff_mul_le (by omega)]
    have : 34359738368 * n ≤ 34359738368 * 8 := Nat.mul_le_mul_left _ n8
    omega
  have q2 : A * 2 ^ 38 / n < 16777216 * 2 ^ 31 := by
    have := Nat.div_le_self (A * 2 ^ 38) n
    omega
  obtain ⟨k, k1, k2, k3, k4⟩ := log_ex2 (n := A * 2 ^ 38 / n) (by omega) (by omega)
  have kb : k ≤ 31 := pw_le (a := 8388608) (b := 16777216) (by omega) (by decide)
  obtain ⟨c, q, r1, r2, r3, r4, r5, r6, -⟩ := fit_round hN (A := A * 2 ^ 38) (B := n) (k := k) (e := -38) (by omega) k1 k2 k3 k4 ⟨by omega, by omega⟩
  rw [r2 s] at e
  obtain ⟨k', k1', k2', k3', k4'⟩ := log_ex2 (n := c * 100) (by omega) (by omega)
  have kb' : k' ≤ 7 := pw_le (a := 8388608) (b := 16777216) (by omega) (by decide)
  obtain ⟨c', q', t1, t2, t3, t4, t5, t6, -⟩ := fit_round hN (A := c * 100) (B := 1) (k := k') (e := q) (by omega) k1' k2' (by rw [Nat.div_one]; exact k3') (by rw [Nat.div_one]; exact k4') ⟨by omega, by omega⟩
  have st : bI (decide (c * 100 % 1 ≠ 0)) = 0 := by rw [Nat.mod_one]; rfl
  rw [Nat.div_one, st] at t1
  have ft := f_times (K := 100) (j := 17) e v_100
  rw [t2 s] at ft
  have m1 : lI (c : Int) * (100 : Int64) = lI ((c * 100 : Nat) : Int) := by rw [show (100 : Int64) = lI 100 from rfl, lI_mul]; rfl
  have ct := s_cut (c := c') (q := q') t3 t4 ⟨by omega, by omega⟩
  refine ⟨fl_ok e, fl_ok ft, ?_⟩
  have r1' : f_X11_fits N (lI ((A * 2 ^ 38 / n : Nat) : Int)) (-38 : Int32) (bI (decide (A * 2 ^ 38 % n ≠ 0))) = some (lI c, iI q) := r1
  unfold f_X11_middle_117
  rw [r1', Option.bind_some]
  simp only []
  rw [m1, t1, Option.bind_some]
  simp only []
  rw [f2i_val, ft, ct.1, Option.bind_some, Option.bind_some]
  by_cases sg : S < 0
  · have n0 : ¬ 0 ≤ iI S := by rw [iI_0le ⟨by omega, by omega⟩]; omega
    rw [if_neg n0, hs, decide_eq_true sg, ct.2 (by omega)]
    exact ⟨_, rfl⟩
  · have n0 : 0 ≤ iI S := by rw [iI_0le ⟨by omega, by omega⟩]; omega
    rw [if_pos n0, hs, decide_eq_false sg]
    exact ⟨_, rfl⟩
theorem mid_zero {g : UInt32} (h : FP.Core.FInt 0 g) {n : Nat} (n1 : 1 ≤ n) (n8 : n ≤ 8) : (FP.fdiv g (FP.i2f (nI n))) &&& 0x7fffffff ≤ 0x7f800000 ∧ (FP.fmul (FP.fdiv g (FP.i2f (nI n))) (1120403456 : UInt32)) &&& 0x7fffffff ≤ 0x7f800000 ∧ FP.f2i (FP.fmul (FP.fdiv g (FP.i2f (nI n))) (1120403456 : UInt32)) = 0 := by
  have hn : FP.Core.FInt (n : Int) (FP.i2f (nI n)) := by rw [iI_nI]; exact fi_of ⟨by omega, by omega⟩
  obtain ⟨l, l1, hd⟩ := fi_small hn (by omega) (by omega)
  rw [Int.natAbs_natCast, decide_eq_false (show ¬ (n : Int) < 0 by omega)] at hd
  have pl := Nat.two_pow_pos l
  have nl0 : ¬ n * 2 ^ l = 0 := by
    have := Nat.mul_pos (show 0 < n by omega) pl
    omega
  unfold FP.Core.FInt at h
  have e : FP.Core.val32 (FP.fdiv g (FP.i2f (nI n))) = FP.Core.quotient FP.Core.b32 (FP.Core.val32 g) (FP.Core.val32 (FP.i2f (nI n))) := FP.Core.val32_fdiv g _
  cases eg : FP.Core.val32 g with
  | nan => rw [eg] at h; exact h.elim
  | inf s => rw [eg] at h; exact h.elim
  | fin s c q =>
    rw [eg] at h
    have c0 : c = 0 := (FP.Core.whole_zero h).mpr rfl
    have es : (s != false) = s := by cases s <;> rfl
    have e2 : FP.Core.quotient FP.Core.b32 (.fin s c q) (.fin false (n * 2 ^ l) (-(l : Int))) = .fin s 0 FP.Core.b32.qmin := by
      show (if n * 2 ^ l = 0 then _ else FP.Core.roundRatio FP.Core.b32 (s != false) c (n * 2 ^ l) (q - -(l : Int))) = _
      rw [if_neg nl0, es]
      unfold FP.Core.roundRatio
      rw [if_pos c0]
    rw [eg, hd, e2] at e
    have ft := f_times (K := 100) (j := 17) e v_100
    unfold FP.Core.roundRatio at ft
    rw [Nat.zero_mul, if_pos rfl] at ft
    refine ⟨fl_ok e, fl_ok ft, ?_⟩
    rw [f2i_val, ft]
    cases s <;> decide +kernel
theorem q_middle (N : Nat) (hN : 1048576 ≤ N) (v1 : Int32) (m_drawers_full m_drawers_kept : Int32) (m_drawers_partA m_drawers_partB m_drawers_keptA m_drawers_keptB m_drawers_keptFull : Nat → Int32) (m_tape_size : Int32) (m_tape_bytes : Nat → Int32) (m_primes_count : Int32) (m_primes_primeA m_primes_primeB : Nat → Int32) (m_one_a m_one_b : Int64) (m_taped m_states m_listed : Int32) (m_bits : Int64) (m_power2 : Int32) (m_tape m_has m_keptHas m_first m_second m_keptFirst m_keptSecond m_la0 m_lb0 : Nat → Int32) (hR : kR m_drawers_full m_drawers_kept m_drawers_partA m_drawers_partB m_drawers_keptA m_drawers_keptB m_drawers_keptFull m_tape_size m_tape_bytes m_primes_count m_primes_primeA m_primes_primeB m_taped m_tape m_has m_keptHas m_first m_second m_keptFirst m_keptSecond m_states m_la0 m_lb0 m_listed) : ∃ (y : Int32 × Int64 × Int64) (z : Int32 × Int64 × Int32), f_X10_middle N v1 m_drawers_full m_drawers_partA m_drawers_partB m_one_a m_one_b = some y ∧ f_X11_middle N v1 m_bits m_power2 m_has m_first m_second = some z ∧ y.1 = z.1 ∧ kR m_drawers_full m_drawers_kept m_drawers_partA m_drawers_partB m_drawers_keptA m_drawers_keptB m_drawers_keptFull m_tape_size m_tape_bytes m_primes_count m_primes_primeA m_primes_primeB m_taped m_tape m_has m_keptHas m_first m_second m_keptFirst m_keptSecond m_states m_la0 m_lb0 m_listed := by
  have hR0 := hR
  obtain ⟨⟨dr, hD⟩, hK, hT, hP⟩ := hR
  unfold f_X10_middle f_X11_middle
  obtain ⟨w, hw, rfl⟩ := iI_of v1
  have hlt : (iI w < 0) = (w < 0) := propext (iI_lt0 hw)
  have hle : (iI w ≤ 1) = (w ≤ 1) := propext (iI_le hw (b := 1) ⟨by decide, by decide⟩)
  have hin : f_X11_in (iI w).toInt64 0 1 = some (if 0 ≤ w ∧ w ≤ 1 then 1 else 0) := s_in32 hw (l := 0) (h := 1) ⟨by decide, by decide⟩ ⟨by decide, by decide⟩
  obtain ⟨f, rfl⟩ : ∃ f', N = f' + 1 + 8 := ⟨N - 9, by omega⟩
  have rl := mr_loop hD (N := f + 1 + 8) (iI w) m_bits m_power2 8 0 (by decide) (f + 1)
  have rl' : f_X11_middle_7 (f + 1 + 8) (f + 1 + 8) (iI w) 0 0 0 m_bits m_power2 m_has m_first m_second = f_X11_middle_7 (f + 1 + 8) (f + 1) (iI w) (nI (mc dr 8)) (iI (ms dr (decide (¬ iI w = 0)) 8)) (nI 8) m_bits m_power2 m_has m_first m_second := rl
  have e88 : (8 : Int32) ≤ nI 8 := by decide
  have mcl := mc_le dr 8
  have msb := ms_b hD (decide (¬ iI w = 0)) 8 (by decide)
  rw [rl', f_X11_middle_7, if_pos e88, hin, Option.bind_some]
  simp only [hlt, hle]
  by_cases cw : 0 ≤ w ∧ w ≤ 1
  · have fz : FP.Core.FInt (ms dr (decide (¬ iI w = 0)) 0) (0 : UInt32) := by
      show FP.Core.FInt 0 (0 : UInt32)
      unfold FP.Core.FInt
      rw [v_zero]
      show FP.Core.signed false (0 * 2 ^ (-149 : Int).toNat) = 0 * ((2 ^ (-(-149 : Int)).toNat : Nat) : Int)
      rw [Nat.zero_mul, Int.zero_mul]
      rfl
    obtain ⟨g, oa, ob, hg, ge⟩ := mcl_loop hD (N := f + 1 + 8) (iI w) 8 0 (by decide) (f + 1) 0 m_one_a m_one_b fz
    have ge' : f_X10_middle_19 (f + 1 + 8) (f + 1 + 8) (iI w) (0 : UInt32) 0 0 m_drawers_full m_drawers_partA m_drawers_partB m_one_a m_one_b = f_X10_middle_19 (f + 1 + 8) (f + 1) (iI w) g (nI (mc dr 8)) (nI 8) m_drawers_full m_drawers_partA m_drawers_partB oa ob := ge
    rw [if_neg (show ¬ w < 0 by omega), if_pos cw.2, if_pos cw, if_neg j1, ge', f_X10_middle_19, if_pos e88]
    obtain ⟨n, hn⟩ : ∃ n, n = mc dr 8 := ⟨_, rfl⟩
    obtain ⟨S, hS⟩ : ∃ S, S = ms dr (decide (¬ iI w = 0)) 8 := ⟨_, rfl⟩
    rw [← hn] at mcl
    rw [← hS] at hg msb
    rw [← hn, ← hS]
    rcases Nat.eq_zero_or_pos n with z | z
    · have z' : nI n = 0 := by rw [z]; rfl
      rw [if_pos z', if_pos z']
      exact ⟨_, _, rfl, rfl, rfl, hR0⟩
    · have z' : ¬ nI n = 0 := nI_ne0 z (by omega)
      rw [if_neg z', if_neg z']
      by_cases s0 : S = 0
      · have s0' : iI S = 0 := by rw [s0]; rfl
        rw [s0] at hg
        obtain ⟨o1, o2, o3⟩ := mid_zero hg z mcl
        rw [if_pos s0', if_pos o1, if_pos o2, o3]
        exact ⟨_, _, rfl, rfl, rfl, hR0⟩
      · have s0' : ¬ iI S = 0 := by rw [iI_0 ⟨by omega, by omega⟩]; exact s0
        have ln : (nI n).toInt64 = lI (n : Int) := by rw [iI_nI, iI_l ⟨by omega, by omega⟩]
        have lS : (iI S).toInt64 = lI S := iI_l ⟨by omega, by omega⟩
        have ln0 : ¬ lI (n : Int) = 0 := by rw [lI_0 ⟨by omega, by omega⟩]; omega
        have sh : lI (S.natAbs : Int) <<< (((38 : Int32)).toInt64 &&& 63) = lI ((S.natAbs * 2 ^ 38 : Nat) : Int) := l_shl (k := 38) (by omega) (by decide)
        have dv : lI ((S.natAbs * 2 ^ 38 : Nat) : Int) / lI (n : Int) = lI ((S.natAbs * 2 ^ 38 / n : Nat) : Int) := l_ndiv (by omega) (by omega)
        have md : lI ((S.natAbs * 2 ^ 38 : Nat) : Int) - lI ((S.natAbs * 2 ^ 38 / n : Nat) : Int) * lI (n : Int) = lI ((S.natAbs * 2 ^ 38 % n : Nat) : Int) := by
          rw [← dv]; exact l_nmod (by omega) (by omega)
        have ml := Nat.mod_lt (S.natAbs * 2 ^ 38) z
        obtain ⟨o1, o2, y, o3⟩ := mid_end hN hg s0 ⟨by omega, by omega⟩ z mcl
        rw [if_neg s0', if_pos o1, if_pos o2, lS, s_without ⟨by omega, by omega⟩, Option.bind_some, ln, if_neg ln0, if_neg ln0, sh, dv, md, st_if (fun t => f_X11_middle_117 (f + 1 + 8) (iI S) (lI ((S.natAbs * 2 ^ 38 / n : Nat) : Int)) (-38 : Int32) t) (by omega), o3]
        exact ⟨_, _, rfl, rfl, rfl, hR0⟩
  · have cA : ∀ {α : Type} {P R : Option α}, (if w < 0 then P else if w ≤ 1 then R else P) = P := by
      intro α P R
      by_cases c1 : w < 0
      · rw [if_pos c1]
      · rw [if_neg c1, if_neg (by omega)]
    rw [cA, if_neg cw, if_pos rfl]
    by_cases z : nI (mc dr 8) = 0
    · rw [if_pos z]
      exact ⟨_, _, rfl, rfl, rfl, hR0⟩
    · rw [if_neg z]
      exact ⟨_, _, rfl, rfl, rfl, hR0⟩
