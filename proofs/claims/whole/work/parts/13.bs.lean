/-! ===== first functions of both sides over whole numbers ===== -/
def nrm (a b : Int) : Int := a * a - a * b + b * b
def mA (a b c d : Int) : Int := a * c - b * d
def mB (a b c d : Int) : Int := a * d + b * c - b * d
theorem l0 : (0 : Int64) = lI 0 := rfl
theorem l1 : (1 : Int64) = lI 1 := rfl
theorem l2 : (2 : Int64) = lI 2 := rfl
theorem l3 : (3 : Int64) = lI 3 := rfl
theorem lm1 : (-1 : Int64) = lI (-1) := rfl
theorem i0 : (0 : Int32) = iI 0 := rfl
theorem i1 : (1 : Int32) = iI 1 := rfl
theorem i2 : (2 : Int32) = iI 2 := rfl
theorem i3 : (3 : Int32) = iI 3 := rfl
theorem i4 : (4 : Int32) = iI 4 := rfl
theorem im1 : (-1 : Int32) = iI (-1) := rfl
theorem Int64.xor_nonneg (x y : Int64) : 0 ≤ (x ^^^ y) ↔ (x < 0 ↔ y < 0) := by
  have h (z : Int64) : z < 0 ↔ z.toBitVec.msb = true := by
    rw [Int64.lt_iff_toBitVec_slt]
    show z.toBitVec.slt 0#64 = true ↔ _
    rw [BitVec.slt_zero_iff_msb_cond]
  have h2 (z : Int64) : 0 ≤ z ↔ ¬ z < 0 := by
    rw [Int64.le_iff_toInt_le, Int64.lt_iff_toInt_lt]; exact Int.not_lt.symm
  rw [h2, h x, h y, h (x ^^^ y)]
  rw [Int64.toBitVec_xor, BitVec.msb_xor]
  cases x.toBitVec.msb <;> cases y.toBitVec.msb <;> simp
theorem Int32.xor_nonneg (x y : Int32) : 0 ≤ (x ^^^ y) ↔ (x < 0 ↔ y < 0) := by
  have h (z : Int32) : z < 0 ↔ z.toBitVec.msb = true := by
    rw [Int32.lt_iff_toBitVec_slt]
    show z.toBitVec.slt 0#32 = true ↔ _
    rw [BitVec.slt_zero_iff_msb_cond]
  have h2 (z : Int32) : 0 ≤ z ↔ ¬ z < 0 := by
    rw [Int32.le_iff_toInt_le, Int32.lt_iff_toInt_lt]; exact Int.not_lt.symm
  rw [h2, h x, h y, h (x ^^^ y)]
  rw [Int32.toBitVec_xor, BitVec.msb_xor]
  cases x.toBitVec.msb <;> cases y.toBitVec.msb <;> simp
theorem b64_i {z : Int} (h1 : -9223372036854775808 ≤ z) (h2 : z < 9223372036854775808) : b64 z := ⟨h1, h2⟩
theorem s_in {a l h : Int} (ha : b64 a) (hl : b64 l) (hh : b64 h) : f_X11_in (lI a) (lI l) (lI h) = some (if l ≤ a ∧ a ≤ h then 1 else 0) := by
  unfold f_X11_in
  simp only [lI_lt ha hl, lI_lt hh ha]
  by_cases h1 : a < l
  · rw [if_pos h1, if_neg (by omega)]
  · rw [if_neg h1]
    by_cases h2 : h < a
    · rw [if_pos h2, if_neg (by omega)]
    · rw [if_neg h2, if_pos (by omega)]
def kNb (a b : Int) : Bool := decide (-9999 ≤ a ∧ a ≤ 9999 ∧ -9999 ≤ b ∧ b ≤ 9999)
theorem kNb_iff {a b : Int} : kNb a b = true ↔ kNum a b := by unfold kNb kNum; exact decide_eq_true_iff
theorem s_isNear {a b : Int} (ha : b64 a) (hb : b64 b) : f_X11_isNear (lI a) (lI b) = some (if kNb a b then 1 else 0) := by
  unfold f_X11_isNear
  have e1 : (-9999 : Int64) = lI (-9999) := rfl
  have e2 : (9999 : Int64) = lI 9999 := rfl
  rw [e1, e2, s_in ha (by constructor <;> decide) (by constructor <;> decide), Option.bind_some, s_in hb (by constructor <;> decide) (by constructor <;> decide)]
  by_cases h1 : -9999 ≤ a ∧ a ≤ 9999
  · rw [if_pos h1, if_neg (by decide), Option.bind_some]
    by_cases h2 : -9999 ≤ b ∧ b ≤ 9999
    · rw [if_pos h2, if_neg (by decide), if_pos (kNb_iff.mpr ⟨h1.1, h1.2, h2⟩)]
    · rw [if_neg h2, if_pos rfl, if_neg (fun z => h2 (kNb_iff.mp z).2.2)]
  · rw [if_neg h1, if_pos rfl, if_neg (fun z => h1 ⟨(kNb_iff.mp z).1, (kNb_iff.mp z).2.1⟩)]
theorem s_fits {a b : Int} (ha : b64 a) (hb : b64 b) : f_X5_fits (lI a) (lI b) = some (if kNb a b then 1 else 0) := by
  unfold f_X5_fits
  have e1 : (-9999 : Int64) = lI (-9999) := rfl
  have e2 : (9999 : Int64) = lI 9999 := rfl
  have k : kNum a b ↔ (-9999 ≤ a ∧ a ≤ 9999 ∧ -9999 ≤ b ∧ b ≤ 9999) := Iff.rfl
  rw [e1, e2]
  simp only [lI_lt ha (show b64 (-9999) by constructor <;> decide), lI_lt (show b64 9999 by constructor <;> decide) ha, lI_lt hb (show b64 (-9999) by constructor <;> decide), lI_lt (show b64 9999 by constructor <;> decide) hb]
  by_cases h : kNb a b = true
  · have h' := k.mp (kNb_iff.mp h)
    rw [if_pos h, if_neg (by omega), if_neg (by omega), if_neg (by omega), if_neg (by omega)]
  · rw [if_neg h]
    (repeat' split) <;> first | rfl | (exfalso; exact h (kNb_iff.mpr (k.mpr (by omega))))
theorem lI_0 {a : Int} (ha : b64 a) : lI a = 0 ↔ a = 0 := by rw [l0]; exact lI_eq ha ⟨by decide, by decide⟩
theorem lI_lt0 {a : Int} (ha : b64 a) : lI a < 0 ↔ a < 0 := by rw [l0]; exact lI_lt ha ⟨by decide, by decide⟩
theorem lI_0le {a : Int} (ha : b64 a) : 0 ≤ lI a ↔ 0 ≤ a := by rw [l0]; exact lI_le ⟨by decide, by decide⟩ ha
theorem b64_tdiv {a m : Int} (ha : b64 a) (hm : 0 < m) : b64 (a.tdiv m) := by
  have h1 : (a.tdiv m).natAbs ≤ a.natAbs := by rw [Int.natAbs_tdiv]; exact Nat.div_le_self _ _
  have := ha.1; have := ha.2
  by_cases h : 0 ≤ a
  · have : 0 ≤ a.tdiv m := Int.tdiv_nonneg h (by omega)
    constructor <;> omega
  · have : a.tdiv m ≤ 0 := by
      have h2 : 0 ≤ (-a).tdiv m := Int.tdiv_nonneg (by omega) (by omega)
      rw [Int.neg_tdiv] at h2; omega
    constructor <;> omega
theorem tm_bounds {a m : Int} (hm : 0 < m) : (0 ≤ a → 0 ≤ a.tmod m ∧ a.tmod m < m) ∧ (a < 0 → -m < a.tmod m ∧ a.tmod m ≤ 0) := by
  constructor
  · intro h; exact ⟨Int.tmod_nonneg _ h, Int.tmod_lt_of_pos _ hm⟩
  · intro h
    have h1 := Int.tmod_nonneg m (a := -a) (by omega)
    have h2 := Int.tmod_lt_of_pos (-a) hm
    rw [Int.neg_tmod] at h1 h2
    omega
theorem em_of {a m r q : Int} (hm : 0 < m) (h : a = m * q + r) (h0 : 0 ≤ r) (h1 : r < m) : a % m = r ∧ a / m = q := by
  have := Int.emod_emod_of_dvd a (Int.dvd_refl m)
  constructor
  · rw [h, Int.mul_add_emod_self_left, Int.emod_eq_of_lt h0 h1]
  · rw [h, Int.add_comm, Int.add_mul_ediv_left _ _ (by omega), Int.ediv_eq_zero_of_lt h0 h1, Int.zero_add]
theorem td_em {a m : Int} (hm : 0 < m) : (a.tmod m = 0 ∨ 0 ≤ a → a % m = a.tmod m ∧ a / m = a.tdiv m) ∧ (a.tmod m ≠ 0 → a < 0 → a % m = a.tmod m + m ∧ a / m = a.tdiv m - 1) := by
  have e := Int.mul_tdiv_add_tmod a m
  have hb := tm_bounds (a := a) hm
  constructor
  · intro h
    have : 0 ≤ a.tmod m ∧ a.tmod m < m := by rcases h with h | h <;> omega
    exact em_of hm e.symm this.1 this.2
  · intro h1 h2
    have := hb.2 h2
    refine em_of hm ?_ (by omega) (by omega)
    rw [Int.mul_sub]; omega
theorem s_down {a m : Int} (ha : b64 a) (hm : 0 < m) (hb : b64 m) : f_X11_down (lI a) (lI m) = some (lI (a / m)) := by
  have hq : b64 (a.tmod m) := by
    have := tm_bounds (a := a) hm; have := hb.1; have := hb.2
    by_cases h : 0 ≤ a
    · constructor <;> omega
    · constructor <;> omega
  unfold f_X11_down f_X11_down_24
  rw [if_neg (by rw [lI_0 hb]; omega), if_neg (by rw [lI_0 hb]; omega)]
  simp only [lI_rem ha hb]
  simp only [lI_0 hq, lI_0le ha, lI_div ha hb, lI_0le hb]
  rw [if_pos (show 0 ≤ m by omega), if_pos (show 0 ≤ m by omega)]
  by_cases h1 : a.tmod m = 0
  · rw [if_pos h1, ((td_em hm).1 (Or.inl h1)).2]
  · rw [if_neg h1]
    by_cases h2 : 0 ≤ a
    · rw [if_pos h2, if_pos trivial, ((td_em hm).1 (Or.inr h2)).2]
    · rw [if_neg h2, if_neg (by decide), ((td_em hm).2 h1 (by omega)).2, l1, lI_sub]
theorem s_rest {a m : Int} (ha : b64 a) (hm : 0 < m) (hb : b64 m) : f_X11_rest (lI a) (lI m) = some (lI (a % m)) := by
  unfold f_X11_rest
  rw [s_down ha hm hb, Option.bind_some, lI_mul, lI_sub, Int.emod_def, Int.mul_comm]
theorem s_floorMod {a m : Int} (ha : b64 a) (hm : 0 < m) (hb : b64 m) : f_J9_floorMod_f86c9 (lI a) (lI m) = some (lI (a % m)) := by
  have hq : b64 (a.tmod m) := by
    have := tm_bounds (a := a) hm; have := hb.1; have := hb.2
    by_cases h : 0 ≤ a
    · constructor <;> omega
    · constructor <;> omega
  unfold f_J9_floorMod_f86c9
  rw [if_neg (by rw [lI_0 hb]; omega)]
  simp only [lI_rem ha hb]
  simp only [Int64.xor_nonneg, lI_lt0 ha, lI_lt0 hb, lI_0 hq, lI_add]
  by_cases h1 : 0 ≤ a
  · rw [if_pos (by omega), ((td_em hm).1 (Or.inr h1)).1]
  · rw [if_neg (by omega)]
    by_cases h2 : a.tmod m = 0
    · rw [if_pos h2, ((td_em hm).1 (Or.inl h2)).1]
    · rw [if_neg h2, ((td_em hm).2 h2 (by omega)).1]
theorem s_floorDiv {a m : Int} (ha : b64 a) (hm : 0 < m) (hb : b64 m) : f_J9_floorDiv_f86c9 (lI a) (lI m) = some (lI (a / m)) := by
  have hq : b64 (a.tdiv m * m) := by
    have e := Int.mul_tdiv_add_tmod a m
    rw [Int.mul_comm] at e
    have := tm_bounds (a := a) hm; have := ha.1; have := ha.2
    by_cases h : 0 ≤ a
    · have : 0 ≤ a.tdiv m * m := Int.mul_nonneg (Int.tdiv_nonneg h (by omega)) (by omega)
      constructor <;> omega
    · have : a.tdiv m * m ≤ 0 := by
        have h2 : 0 ≤ (-a).tdiv m * m := Int.mul_nonneg (Int.tdiv_nonneg (by omega) (by omega)) (by omega)
        rw [Int.neg_tdiv, Int.neg_mul] at h2; omega
      constructor <;> omega
  unfold f_J9_floorDiv_f86c9
  rw [if_neg (by rw [lI_0 hb]; omega)]
  simp only [Int64.xor_nonneg, lI_lt0 ha, lI_lt0 hb, lI_div ha hb, lI_mul, lI_eq hq ha, l1, lI_sub]
  have e := Int.mul_tdiv_add_tmod a m
  rw [Int.mul_comm] at e
  by_cases h1 : 0 ≤ a
  · rw [if_pos (by omega), ((td_em hm).1 (Or.inr h1)).2]
  · rw [if_neg (by omega)]
    by_cases h2 : a.tmod m = 0
    · rw [if_pos (by omega), ((td_em hm).1 (Or.inl h2)).2]
    · rw [if_neg (by omega), ((td_em hm).2 h2 (by omega)).2]
theorem z10 : ((1 : Int32) = 0) = False := eq_false (by decide)
theorem z00 : ((0 : Int32) = 0) = True := eq_true rfl
theorem bt {p q : Prop} (x y : Int32) (hd : Decidable p) (h : p ↔ q) (hq : Decidable q) : (if p then x else y) = (if q then x else y) := by
  by_cases c : p
  · rw [if_pos c, if_pos (h.mp c)]
  · rw [if_neg c, if_neg (fun z => c (h.mpr z))]
