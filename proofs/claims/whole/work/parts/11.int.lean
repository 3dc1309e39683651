/-! ===== whole numbers and the machine's ===== -/
def lI (z : Int) : Int64 := Int64.ofInt z
def iI (z : Int) : Int32 := Int32.ofInt z
def b64 (z : Int) : Prop := -9223372036854775808 ≤ z ∧ z < 9223372036854775808
def b32 (z : Int) : Prop := -2147483648 ≤ z ∧ z < 2147483648
theorem lI_add (a b : Int) : lI a + lI b = lI (a + b) := (Int64.ofInt_add a b).symm
theorem lI_sub (a b : Int) : lI a - lI b = lI (a - b) := (Int64.ofInt_sub a b).symm
theorem lI_mul (a b : Int) : lI a * lI b = lI (a * b) := (Int64.ofInt_mul a b).symm
theorem lI_neg (a : Int) : -lI a = lI (-a) := (Int64.ofInt_neg a).symm
theorem iI_add (a b : Int) : iI a + iI b = iI (a + b) := (Int32.ofInt_add a b).symm
theorem iI_sub (a b : Int) : iI a - iI b = iI (a - b) := (Int32.ofInt_sub a b).symm
theorem iI_mul (a b : Int) : iI a * iI b = iI (a * b) := (Int32.ofInt_mul a b).symm
theorem iI_neg (a : Int) : -iI a = iI (-a) := (Int32.ofInt_neg a).symm
theorem lI_toInt {z : Int} (h : b64 z) : (lI z).toInt = z := Int64.toInt_ofInt_of_le h.1 h.2
theorem iI_toInt {z : Int} (h : b32 z) : (iI z).toInt = z := Int32.toInt_ofInt_of_le h.1 h.2
theorem lI_lt {a b : Int} (ha : b64 a) (hb : b64 b) : lI a < lI b ↔ a < b := by rw [Int64.lt_iff_toInt_lt, lI_toInt ha, lI_toInt hb]
theorem lI_le {a b : Int} (ha : b64 a) (hb : b64 b) : lI a ≤ lI b ↔ a ≤ b := by rw [Int64.le_iff_toInt_le, lI_toInt ha, lI_toInt hb]
theorem lI_eq {a b : Int} (ha : b64 a) (hb : b64 b) : lI a = lI b ↔ a = b := by rw [← Int64.toInt_inj, lI_toInt ha, lI_toInt hb]
theorem iI_lt {a b : Int} (ha : b32 a) (hb : b32 b) : iI a < iI b ↔ a < b := by rw [Int32.lt_iff_toInt_lt, iI_toInt ha, iI_toInt hb]
theorem iI_le {a b : Int} (ha : b32 a) (hb : b32 b) : iI a ≤ iI b ↔ a ≤ b := by rw [Int32.le_iff_toInt_le, iI_toInt ha, iI_toInt hb]
theorem iI_eq {a b : Int} (ha : b32 a) (hb : b32 b) : iI a = iI b ↔ a = b := by rw [← Int32.toInt_inj, iI_toInt ha, iI_toInt hb]
theorem lI_of (x : Int64) : ∃ z, b64 z ∧ x = lI z := ⟨x.toInt, ⟨Int64.le_toInt x, Int64.toInt_lt x⟩, (Int64.ofInt_toInt x).symm⟩
theorem iI_of (x : Int32) : ∃ z, b32 z ∧ x = iI z := ⟨x.toInt, ⟨Int32.le_toInt x, Int32.toInt_lt x⟩, (Int32.ofInt_toInt x).symm⟩
theorem lI_div {a b : Int} (ha : b64 a) (hb : b64 b) : lI a / lI b = lI (a.tdiv b) := (Int64.ofInt_tdiv ha.1 (Int.le_of_lt_add_one ha.2) hb.1 (Int.le_of_lt_add_one hb.2)).symm
theorem iI_div {a b : Int} (ha : b32 a) (hb : b32 b) : iI a / iI b = iI (a.tdiv b) := (Int32.ofInt_tdiv ha.1 (Int.le_of_lt_add_one ha.2) hb.1 (Int.le_of_lt_add_one hb.2)).symm
theorem lI_rem {a b : Int} (ha : b64 a) (hb : b64 b) : lI a - lI a / lI b * lI b = lI (a.tmod b) := by rw [lI_div ha hb, lI_mul, lI_sub, Int.tmod_def, Int.mul_comm b]
theorem iI_rem {a b : Int} (ha : b32 a) (hb : b32 b) : iI a - iI a / iI b * iI b = iI (a.tmod b) := by rw [iI_div ha hb, iI_mul, iI_sub, Int.tmod_def, Int.mul_comm b]
theorem lI_i (z : Int) : (lI z).toInt32 = iI z := Int64.toInt32_ofInt
theorem iI_l {z : Int} (h : b32 z) : (iI z).toInt64 = lI z := Int32.toInt64_ofInt h.1 (Int.le_of_lt_add_one h.2)
theorem lI_lit (n : Nat) : (OfNat.ofNat n : Int64) = lI (n : Int) := (Int64.ofInt_eq_ofNat (n := n)).symm
theorem iI_lit (n : Nat) : (OfNat.ofNat n : Int32) = iI (n : Int) := (Int32.ofInt_eq_ofNat (n := n)).symm
theorem iI_nI (n : Nat) : nI n = iI n := (Int32.ofInt_eq_ofNat (n := n)).symm
theorem b64_of32 {z : Int} (h : b32 z) : b64 z := ⟨by have := h.1; omega, by have := h.2; omega⟩
