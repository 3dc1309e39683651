/-! ===== floats ===== -/
theorem fl_ok {a : UInt32} {s : Bool} {c : Nat} {q : Int} (h : FP.Core.val32 a = .fin s c q) : a &&& 0x7fffffff ≤ 0x7f800000 := by
  have hE : FP.Core.fieldE FP.Core.b32 a.toNat ≠ FP.Core.b32.exps - 1 := by
    intro z
    unfold FP.Core.val32 FP.Core.decode at h
    rw [if_pos z] at h
    by_cases c1 : FP.Core.fieldT FP.Core.b32 a.toNat = 0
    · rw [if_pos c1] at h; exact FP.Core.Datum.noConfusion h
    · rw [if_neg c1] at h; exact FP.Core.Datum.noConfusion h
  unfold FP.Core.fieldE at hE
  have t1 : FP.Core.b32.tails = 8388608 := by decide
  have t2 : FP.Core.b32.exps = 256 := by decide
  rw [t1, t2] at hE
  have hl := a.toNat_lt
  rw [UInt32.le_iff_toNat_le, UInt32.toNat_and]
  have e1 : (0x7fffffff : UInt32).toNat = 2 ^ 31 - 1 := by decide
  have e2 : (0x7f800000 : UInt32).toNat = 2139095040 := by decide
  rw [e1, e2, Nat.and_two_pow_sub_one_eq_mod]
  omega
theorem v_two : FP.Core.val32 (0x40000000 : UInt32) = .fin false 8388608 (-22) := by decide +kernel
theorem v_1000 : FP.Core.val32 (1148846080 : UInt32) = .fin false (1000 * 2 ^ 14) (-14) := by decide +kernel
theorem v_100 : FP.Core.val32 (1120403456 : UInt32) = .fin false (100 * 2 ^ 17) (-17) := by decide +kernel
theorem v_zero : FP.Core.val32 (0 : UInt32) = .fin false 0 (-149) := by decide +kernel
theorem f_half {a : UInt32} {c : Nat} {q : Int} (h : FP.Core.val32 a = .fin false c q) (h1 : 8388608 ≤ c) (h2 : c < 16777216) (hq : -140 ≤ q ∧ q ≤ 100) : FP.Core.val32 (FP.fdiv a 0x40000000) = .fin false c (q - 1) := by
  have e : FP.Core.val32 (FP.fdiv a 0x40000000) = FP.Core.quotient FP.Core.b32 (FP.Core.val32 a) (FP.Core.val32 0x40000000) := FP.Core.val32_fdiv a _
  rw [e, h, v_two]
  show FP.Core.roundRatio FP.Core.b32 false c 8388608 (q - -22) = _
  refine FP.Core.roundRatio_exact FP.Core.good_b32 (by decide) ⟨?_, ?_, ?_, Or.inr ?_⟩ ?_
  · exact h2
  · show (-149 : Int) ≤ q - 1
    omega
  · show q - 1 ≤ (104 : Int)
    omega
  · exact h1
  · rw [show (q - -22 - (q - 1)).toNat = 23 by omega, show (q - 1 - (q - -22)).toNat = 0 by omega, Nat.pow_zero, Nat.mul_one]
theorem f_times {a b : UInt32} {s : Bool} {c K j : Nat} {q : Int} (h : FP.Core.val32 a = .fin s c q) (hb : FP.Core.val32 b = .fin false (K * 2 ^ j) (-(j : Int))) : FP.Core.val32 (FP.fmul a b) = FP.Core.roundRatio FP.Core.b32 s (c * K) 1 q := by
  have e : FP.Core.val32 (FP.fmul a b) = FP.Core.round FP.Core.b32 (FP.Core.exactProduct (FP.Core.val32 a) (FP.Core.val32 b)) := FP.Core.val32_fmul a b
  rw [e, h, hb]
  have es : (s != false) = s := by cases s <;> rfl
  show FP.Core.roundRatio FP.Core.b32 (s != false) (c * (K * 2 ^ j)) 1 (q + -(j : Int)) = _
  rw [es]
  refine FP.Core.roundRatio_congr (by decide) (by decide) ?_
  rw [show (q + -(j : Int) - q).toNat = 0 by omega, show (q - (q + -(j : Int))).toNat = j by omega, Nat.pow_zero, Nat.mul_one, Nat.mul_one, Nat.mul_one, Nat.mul_assoc]
theorem f_sum {a b : UInt32} {ca cb x y : Nat} {pa pb m : Int} (ha : FP.Core.val32 a = .fin false ca pa) (hb : FP.Core.val32 b = .fin false cb pb) (hm : m = min pa pb) (hx : pa - m = x) (hy : pb - m = y) : FP.Core.val32 (FP.fadd a b) = FP.Core.roundRatio FP.Core.b32 false (ca * 2 ^ x + cb * 2 ^ y) 1 m := by
  have e : FP.Core.val32 (FP.fadd a b) = FP.Core.round FP.Core.b32 (FP.Core.exactSum (FP.Core.val32 a) (FP.Core.val32 b)) := FP.Core.val32_fadd a b
  rw [e, ha, hb]
  have su : FP.Core.sumUnits false ca pa false cb pb (min pa pb) = ((ca * 2 ^ x + cb * 2 ^ y : Nat) : Int) := by
    unfold FP.Core.sumUnits FP.Core.inUnits FP.Core.signed
    rw [← hm, hx, hy]
    rfl
  show FP.Core.roundRatio FP.Core.b32 (FP.Core.sumSign false false (FP.Core.sumUnits false ca pa false cb pb (min pa pb))) (FP.Core.sumUnits false ca pa false cb pb (min pa pb)).natAbs 1 (min pa pb) = _
  rw [su, ← hm]
  have sg : FP.Core.sumSign false false ((ca * 2 ^ x + cb * 2 ^ y : Nat) : Int) = false := by
    unfold FP.Core.sumSign
    split
    · rfl
    · exact decide_eq_false (by omega)
  rw [sg, Int.natAbs_natCast]
theorem f_quot {N : Nat} (hN : 1048576 ≤ N) {a b : UInt32} {ca cb : Nat} {pa pb : Int} (ha : FP.Core.val32 a = .fin false ca pa) (hb : FP.Core.val32 b = .fin false cb pb) (a1 : 8388608 ≤ ca) (a2 : ca < 16777216) (b1 : 8388608 ≤ cb) (b2 : cb < 16777216) (hp : -60 ≤ pa - pb ∧ pa - pb ≤ 60) : ∃ (c : Nat) (q : Int), f_X11_fits N (lI ((ca * 2 ^ 38 / cb : Nat) : Int)) (iI (pa - pb - 38)) (bI (decide (ca * 2 ^ 38 % cb ≠ 0))) = some (lI c, iI q) ∧ FP.Core.val32 (FP.fdiv a b) = .fin false c q ∧ 8388608 ≤ c ∧ c < 16777216 ∧ pa - pb - 24 ≤ q ∧ q ≤ pa - pb - 23 := by
  have e : FP.Core.val32 (FP.fdiv a b) = FP.Core.quotient FP.Core.b32 (FP.Core.val32 a) (FP.Core.val32 b) := FP.Core.val32_fdiv a b
  have e2 : FP.Core.quotient FP.Core.b32 (.fin false ca pa) (.fin false cb pb) = FP.Core.roundRatio FP.Core.b32 false (ca * 2 ^ 38) cb (pa - pb - 38) := by
    show (if cb = 0 then _ else FP.Core.roundRatio FP.Core.b32 false ca cb (pa - pb)) = _
    rw [if_neg (by omega)]
    refine FP.Core.roundRatio_congr (by omega) (by omega) ?_
    rw [show (pa - pb - (pa - pb - 38)).toNat = 38 by omega, show (pa - pb - 38 - (pa - pb)).toNat = 0 by omega]
    grind
  rw [e, ha, hb, e2]
  by_cases c : cb ≤ ca
  · obtain ⟨r, q, r1, r2, r3, r4, r5, r6, r7⟩ := fit_round hN (A := ca * 2 ^ 38) (B := cb) (k := 15) (e := pa - pb - 38) (by omega) (by decide) (by decide) (by rw [Nat.le_div_iff_mul_le (by omega)]; omega) (by rw [Nat.div_lt_iff_lt_mul (by omega)]; omega) ⟨by omega, by omega⟩
    exact ⟨r, q, r1, r2 false, r3, r4, by omega, by have := r7 (by omega); omega⟩
  · obtain ⟨r, q, r1, r2, r3, r4, r5, r6, r7⟩ := fit_round hN (A := ca * 2 ^ 38) (B := cb) (k := 14) (e := pa - pb - 38) (by omega) (by decide) (by decide) (by rw [Nat.le_div_iff_mul_le (by omega)]; omega) (by rw [Nat.div_lt_iff_lt_mul (by omega)]; omega) ⟨by omega, by omega⟩
    exact ⟨r, q, r1, r2 false, r3, r4, by omega, by have := r7 (by omega); omega⟩
theorem sum_fit {N : Nat} (hN : 1048576 ≤ N) {c1 c2 d : Nat} {m : Int} (a1 : 8388608 ≤ c1) (a2 : c1 < 16777216) (b1 : 8388608 ≤ c2) (b2 : c2 < 16777216) (hd : d ≤ 36) (hm : -60 ≤ m ∧ m ≤ 60) : ∃ (c : Nat) (q : Int), f_X11_fits N (lI ((c1 * 2 ^ d + c2 : Nat) : Int)) (iI m) 0 = some (lI c, iI q) ∧ (∀ s, FP.Core.roundRatio FP.Core.b32 s (c1 * 2 ^ d + c2) 1 m = .fin s c q) ∧ 8388608 ≤ c ∧ c < 16777216 ∧ m + d ≤ q ∧ q ≤ m + d + 1 := by
  have pd := Nat.two_pow_pos d
  have p36 : 2 ^ d ≤ 2 ^ 36 := Nat.pow_le_pow_right (by decide) hd
  have l1 := Nat.mul_le_mul_right (2 ^ d) a1
  have l2 := Nat.mul_le_mul_right (2 ^ d) (show c1 ≤ 16777215 by omega)
  have pe : 2 ^ (d + 1) = 2 * 2 ^ d := by rw [Nat.pow_succ]; omega
  obtain ⟨A, hA⟩ : ∃ A, A = c1 * 2 ^ d + c2 := ⟨_, rfl⟩
  obtain ⟨k, k1, k2, k3, k4⟩ := log_ex2 (n := A) (by omega) (by omega)
  have kd : d ≤ k := pw_le (a := 8388608) (b := 16777216) (by omega) (by decide)
  have kd2 : k ≤ d + 1 := pw_le (a := 8388608) (b := 16777216) (by omega) (by decide)
  obtain ⟨r, q, r1, r2, r3, r4, r5, r6, r7⟩ := fit_round hN (A := A) (B := 1) (k := k) (e := m) (by omega) k1 k2 (by rw [Nat.div_one]; exact k3) (by rw [Nat.div_one]; exact k4) ⟨by omega, by omega⟩
  have st : bI (decide (A % 1 ≠ 0)) = 0 := by rw [Nat.mod_one]; rfl
  rw [Nat.div_one, st] at r1
  rw [← hA]
  refine ⟨r, q, r1, r2, r3, r4, by omega, ?_⟩
  by_cases c : k = d
  · omega
  · have kk : k = d + 1 := by omega
    have := r7 (by rw [kk]; omega)
    omega
theorem s_cut {c : Nat} {q : Int} (h1 : 8388608 ≤ c) (h2 : c < 16777216) (hq : -1000 ≤ q ∧ q ≤ 1000) : f_X11_cut (lI c) (iI q) = some (FP.Core.toI (.fin false c q)) ∧ (q ≤ 7 → FP.Core.toI (.fin true c q) = -FP.Core.toI (.fin false c q)) := by
  obtain ⟨t, ht⟩ : ∃ t, t = c * 2 ^ q.toNat / 2 ^ (-q).toNat := ⟨_, rfl⟩
  have tf : FP.Core.toI (.fin false c q) = Int32.ofInt (max (-2 ^ 31) (min (2 ^ 31 - 1) (t : Int))) := by
    rw [ht]; rfl
  have tt : FP.Core.toI (.fin true c q) = Int32.ofInt (max (-2 ^ 31) (min (2 ^ 31 - 1) (-(t : Int)))) := by
    rw [ht]; rfl
  rw [tf, tt]
  have b7 : iI q ≤ (7 : Int32) ↔ q ≤ 7 := iI_le (b := 7) ⟨by omega, by omega⟩ ⟨by decide, by decide⟩
  have b0 : iI q < 0 ↔ q < 0 := iI_lt0 ⟨by omega, by omega⟩
  have m40 : (-40 : Int32) = iI (-40) := by decide
  have b40 : (-40 : Int32) ≤ iI q ↔ -40 ≤ q := by rw [m40]; exact iI_le (a := -40) (b := q) ⟨by decide, by decide⟩ ⟨by omega, by omega⟩
  unfold f_X11_cut
  by_cases c7 : q ≤ 7
  · rw [if_pos (b7.mpr c7)]
    by_cases c0 : q < 0
    · have q0 : q.toNat = 0 := by omega
      have t1 : t = c / 2 ^ (-q).toNat := by rw [ht, q0, Nat.pow_zero, Nat.mul_one]
      have tl : t ≤ c := by rw [t1]; exact Nat.div_le_self _ _
      have ra : Int32.ofInt (max (-2 ^ 31) (min (2 ^ 31 - 1) (t : Int))) = iI (t : Int) := congrArg iI (by omega)
      have rb : Int32.ofInt (max (-2 ^ 31) (min (2 ^ 31 - 1) (-(t : Int)))) = iI (-(t : Int)) := congrArg iI (by omega)
      rw [if_pos (b0.mpr c0), ra, rb]
      refine ⟨?_, fun _ => (iI_neg _).symm⟩
      by_cases c40 : -40 ≤ q
      · have sh : lI (c : Int) >>> ((-iI q).toInt64 &&& 63) = lI (t : Int) := by
          rw [t1, ← l_shr (n := c) (k := (-q).toNat) (by omega) (by omega), iI_neg, iI_nI, show ((((-q).toNat : Nat)) : Int) = -q by omega]
        rw [if_pos (b40.mpr c40), sh, lI_i]
      · have t0 : t = 0 := by
          rw [t1]
          have : 2 ^ 24 ≤ 2 ^ (-q).toNat := Nat.pow_le_pow_right (by decide) (by omega)
          exact Nat.div_eq_of_lt (by omega)
        rw [if_neg (fun z => c40 (b40.mp z)), t0]; rfl
    · have q0 : (-q).toNat = 0 := by omega
      have t1 : t = c * 2 ^ q.toNat := by rw [ht, q0, Nat.pow_zero, Nat.div_one]
      have p7 : 2 ^ q.toNat ≤ 2 ^ 7 := Nat.pow_le_pow_right (by decide) (by omega)
      have tl : c * 2 ^ q.toNat ≤ 16777215 * 2 ^ 7 := Nat.mul_le_mul (by omega) p7
      have ra : Int32.ofInt (max (-2 ^ 31) (min (2 ^ 31 - 1) (t : Int))) = iI (t : Int) := congrArg iI (by omega)
      have rb : Int32.ofInt (max (-2 ^ 31) (min (2 ^ 31 - 1) (-(t : Int)))) = iI (-(t : Int)) := congrArg iI (by omega)
      have sh : lI (c : Int) <<< ((iI q).toInt64 &&& 63) = lI (t : Int) := by
        rw [t1, ← l_shl (n := c) (k := q.toNat) (by omega) (by omega), iI_nI, show ((q.toNat : Nat) : Int) = q by omega]
      rw [if_neg (fun z => c0 (b0.mp z)), ra, rb, iI_neg, sh, lI_i]
      exact ⟨rfl, fun _ => rfl⟩
  · have q0 : (-q).toNat = 0 := by omega
    have t1 : t = c * 2 ^ q.toNat := by rw [ht, q0, Nat.pow_zero, Nat.div_one]
    have p8 : 2 ^ 8 ≤ 2 ^ q.toNat := Nat.pow_le_pow_right (by decide) (by omega)
    have tl : 8388608 * 2 ^ 8 ≤ c * 2 ^ q.toNat := Nat.mul_le_mul h1 p8
    have ra : Int32.ofInt (max (-2 ^ 31) (min (2 ^ 31 - 1) (t : Int))) = (2147483647 : Int32) := by
      rw [show max (-2 ^ 31) (min (2 ^ 31 - 1) (t : Int)) = 2147483647 by omega]; rfl
    rw [if_neg (fun z => c7 (b7.mp z)), ra]
    exact ⟨rfl, fun z => absurd z c7⟩
theorem f2i_val (a : UInt32) : FP.f2i a = FP.Core.toI (FP.Core.val32 a) := rfl
theorem f_gt0 {a : UInt32} {c : Nat} {q : Int} (h : FP.Core.val32 a = .fin false c q) (h1 : 0 < c) : ¬ Op.cmpValue (FP.fcmp a (0 : UInt32)) CmpOp.l ≤ 0 := by
  have e : FP.fcmp a (0 : UInt32) = FP.Core.order (FP.Core.val32 a) (FP.Core.val32 0) := rfl
  rw [e, h, v_zero]
  obtain ⟨u, hu⟩ : ∃ u, u = FP.Core.inUnits c q (min q (-149)) := ⟨_, rfl⟩
  have up : 0 < u := by rw [hu]; exact Nat.mul_pos h1 (Nat.two_pow_pos _)
  have z : FP.Core.inUnits 0 (-149) (min q (-149)) = 0 := Nat.zero_mul _
  show ¬ Op.cmpValue (some (compare (FP.Core.signed false (FP.Core.inUnits c q (min q (-149)))) (FP.Core.signed false (FP.Core.inUnits 0 (-149) (min q (-149)))))) CmpOp.l ≤ 0
  rw [z, ← hu]
  have g : compare (FP.Core.signed false u) (FP.Core.signed false 0) = Ordering.gt := by
    show compare ((u : Int)) (0 : Int) = Ordering.gt
    simp only [compare, compareOfLessAndEq]
    rw [if_neg (by omega), if_neg (by omega)]
  rw [g]
  decide
