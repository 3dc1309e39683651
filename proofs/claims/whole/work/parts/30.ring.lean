/-! ===== roots of whole numbers; ring, disk, ringAt ===== -/
def isq (v t : Int) : Prop := 0 ≤ t ∧ t * t ≤ v ∧ v < (t + 1) * (t + 1)
theorem sq_succ (t : Int) : (t + 1) * (t + 1) = t * t + 2 * t + 1 := by grind
theorem isq_nat : ∀ n : Nat, ∃ t, isq (n : Int) t
  | 0 => ⟨0, by unfold isq; decide⟩
  | n + 1 => by
    obtain ⟨t, h1, h2, h3⟩ := isq_nat n
    have e1 := sq_succ t
    have e2 := sq_succ (t + 1)
    by_cases c : (t + 1) * (t + 1) ≤ ((n + 1 : Nat) : Int)
    · exact ⟨t + 1, by omega, c, by omega⟩
    · exact ⟨t, h1, by omega, by omega⟩
theorem isq_ex {v : Int} (h : 0 ≤ v) : ∃ t, isq v t := by
  obtain ⟨n, rfl⟩ := Int.eq_ofNat_of_zero_le h
  exact isq_nat n
theorem sq_mono {a b : Int} (h0 : 0 ≤ a) (h : a ≤ b) : a * a ≤ b * b := Int.mul_le_mul h h h0 (by omega)
theorem sq_lt_lt {a b : Int} (hb : 0 ≤ b) (h : a * a < b * b) : a < b := by
  by_cases c : a < b
  · exact c
  · have := sq_mono hb (show b ≤ a by omega)
    omega
theorem isq_uniq {v s t : Int} (h : isq v s) (h' : isq v t) : s = t := by
  obtain ⟨h1, h2, h3⟩ := h
  obtain ⟨k1, k2, k3⟩ := h'
  have := sq_lt_lt (a := s) (b := t + 1) (by omega) (by omega)
  have := sq_lt_lt (a := t) (b := s + 1) (by omega) (by omega)
  omega
theorem isq_le {v t M : Int} (h : isq v t) (hM : 0 ≤ M) (hv : v ≤ M * M) : t ≤ M := by
  have := (sq_lt (a := t) hM (by have := h.2.1; omega)).2
  exact this
theorem isq_eq {v t : Int} (h : isq v t) {s : Int} (hs : 0 ≤ s) (e : s * s = v) : t = s := by
  refine isq_uniq h ⟨hs, by omega, ?_⟩
  have := sq_succ s
  omega
theorem rf_up (N : Nat) {v t : Int} (h : isq v t) (hv : v ≤ 1000000000) : ∀ (j : Nat) (s : Int), 0 ≤ s → s + j = t → ∀ c k : Nat, c + j < 100000 → j < k → f_X9_rootFrom_32 N k (iI v) (iI s) (nI c) = some (iI t) := by
  have ht : t ≤ 31623 := isq_le h (by decide) (by omega)
  have h1 := h.1
  have h2 := h.2.1
  have h3 := h.2.2
  have bv : b32 v := ⟨by have := sq_nn t; omega, by omega⟩
  have cond : ∀ s : Int, 0 ≤ s → s ≤ t → (iI v < (iI s + 1) * (iI s + 1) ↔ v < (s + 1) * (s + 1)) := by
    intro s p1 p2
    have q := sq_mono (show 0 ≤ s + 1 by omega) (show s + 1 ≤ 31624 by omega)
    have q' := sq_nn (s + 1)
    rw [i1, iI_add, iI_mul, iI_lt bv ⟨by omega, by omega⟩]
  intro j
  induction j with
  | zero =>
    intro s p1 p2 c k hc hk
    obtain rfl : s = t := by omega
    obtain ⟨k, rfl⟩ : ∃ k', k = k' + 1 := ⟨k - 1, by omega⟩
    rw [f_X9_rootFrom_32, if_neg (nl100k (show c < 100000 by omega)), if_pos ((cond s p1 (by omega)).mpr h3)]
  | succ j ih =>
    intro s p1 p2 c k hc hk
    obtain ⟨k, rfl⟩ : ∃ k', k = k' + 1 := ⟨k - 1, by omega⟩
    have q := sq_mono (show 0 ≤ s + 1 by omega) (show s + 1 ≤ t by omega)
    rw [f_X9_rootFrom_32, if_neg (nl100k (show c < 100000 by omega)), if_neg (fun z => by have := (cond s p1 (by omega)).mp z; omega), nI_1, i1, iI_add]
    exact ih (s + 1) (by omega) (by omega) (c + 1) k (by omega) (by omega)
theorem rf_down (N : Nat) (hN : 1048576 ≤ N) {v t : Int} (h : isq v t) (hv : v ≤ 1000000000) : ∀ (j : Nat) (s : Int), 0 ≤ s → s ≤ 40000 → s ≤ t + j → ∀ c k : Nat, c + j < 100000 → j < k → f_X9_rootFrom_4 N k (iI v) (iI s) (nI c) = some (iI t) := by
  have ht : t ≤ 31623 := isq_le h (by decide) (by omega)
  have h1 := h.1
  have h2 := h.2.1
  have h3 := h.2.2
  have bv : b32 v := ⟨by have := sq_nn t; omega, by omega⟩
  have cond : ∀ s : Int, 0 ≤ s → s ≤ 40000 → (iI s * iI s ≤ iI v ↔ s * s ≤ v) := by
    intro s p1 p2
    have q := sq_mono p1 p2
    have q' := sq_nn s
    rw [iI_mul, iI_le ⟨by omega, by omega⟩ bv]
  have fin : ∀ s : Int, 0 ≤ s → s ≤ t → f_X9_rootFrom_32 N N (iI v) (iI s) 0 = some (iI t) := by
    intro s p1 p2
    exact rf_up N h hv (t - s).toNat s p1 (by omega) 0 N (by omega) (by omega)
  have small : ∀ s : Int, 0 ≤ s → s ≤ 40000 → s ≤ t → ∀ c k : Nat, c < 100000 → 0 < k → f_X9_rootFrom_4 N k (iI v) (iI s) (nI c) = some (iI t) := by
    intro s p1 p2 p3 c k hc hk
    obtain ⟨k, rfl⟩ : ∃ k', k = k' + 1 := ⟨k - 1, by omega⟩
    have q := sq_mono p1 p3
    have F := fin s p1 p3
    rw [f_X9_rootFrom_4, if_neg (nl100k (show c < 100000 by omega)), if_pos ((cond s p1 p2).mpr (by omega)), F]
    split <;> rfl
  intro j
  induction j with
  | zero =>
    intro s p1 p2 p3 c k hc hk
    exact small s p1 p2 (by omega) c k (by omega) (by omega)
  | succ j ih =>
    intro s p1 p2 p3 c k hc hk
    by_cases c1 : s ≤ t
    · exact small s p1 p2 c1 c k (by omega) (by omega)
    · obtain ⟨k, rfl⟩ : ∃ k', k = k' + 1 := ⟨k - 1, by omega⟩
      have q := sq_mono (show 0 ≤ t + 1 by omega) (show t + 1 ≤ s by omega)
      have em1 : iI s + (-1 : Int32) = iI (s - 1) := by rw [im1, iI_add]; rfl
      rw [f_X9_rootFrom_4, if_neg (nl100k (show c < 100000 by omega)), if_neg (by rw [i0, iI_le ⟨by omega, by omega⟩ ⟨by decide, by decide⟩]; omega), if_neg (fun z => by have := (cond s p1 p2).mp z; omega), nI_1, em1]
      exact ih (s - 1) (by omega) (by omega) (by omega) (c + 1) k (by omega) (by omega)
theorem s_rootFrom {N : Nat} (hN : 1048576 ≤ N) {v t near : Int} (h : isq v t) (hv : v ≤ 1000000000) (h0 : 0 ≤ near) (h1 : near ≤ 40000) : f_X9_rootFrom N (iI v) (iI near) = some (iI t) := by
  have := h.1
  exact rf_down N hN h hv 40000 near h0 h1 (by omega) 0 N (by omega) (by omega)
theorem ro_loop (N : Nat) {v t : Int} (h : isq v t) (hv : v < 2147483648) : ∀ (j : Nat) (lo hi : Int), 0 ≤ lo → lo ≤ t → t ≤ hi → hi ≤ 46341 → hi - lo < 2 ^ j → ∀ k : Nat, j < k → f_X11_rootOf_12 N k (iI v) (lI lo) (lI hi) = some (iI t) := by
  have h1 := h.1
  have h2 := h.2.1
  have h3 := h.2.2
  have bv : b32 v := ⟨by have := sq_nn t; omega, by omega⟩
  intro j
  induction j with
  | zero =>
    intro lo hi p1 p2 p3 p4 p5 k hk
    have e : (2 : Int) ^ 0 = 1 := rfl
    obtain ⟨k, rfl⟩ : ∃ k', k = k' + 1 := ⟨k - 1, by omega⟩
    obtain rfl : lo = t := by omega
    rw [f_X11_rootOf_12, if_pos (by rw [lI_le ⟨by omega, by omega⟩ ⟨by omega, by omega⟩]; omega), lI_i]
  | succ j ih =>
    intro lo hi p1 p2 p3 p4 p5 k hk
    obtain ⟨k, rfl⟩ : ∃ k', k = k' + 1 := ⟨k - 1, by omega⟩
    rw [Int.pow_succ] at p5
    by_cases c : hi ≤ lo
    · obtain rfl : lo = t := by omega
      rw [f_X11_rootOf_12, if_pos (by rw [lI_le ⟨by omega, by omega⟩ ⟨by omega, by omega⟩]; omega), lI_i]
    · obtain ⟨m, hm⟩ : ∃ m, m = (lo + hi + 1) / 2 := ⟨_, rfl⟩
      have em' : (lI lo + lI hi + 1) / 2 = lI m := by
        rw [l1, lI_add, lI_add, l2, lI_div ⟨by omega, by omega⟩ ⟨by decide, by decide⟩, Int.tdiv_eq_ediv_of_nonneg (by omega), hm]
      have sq1 := sq_mono (show 0 ≤ m by omega) (show m ≤ 46341 by omega)
      have sq0 := sq_nn m
      rw [f_X11_rootOf_12, if_neg (by rw [lI_le ⟨by omega, by omega⟩ ⟨by omega, by omega⟩]; omega), em', lI_mul, iI_l bv, l1, lI_sub]
      by_cases c2 : v < m * m
      · rw [if_pos ((lI_lt (b64_of32 bv) ⟨by omega, by omega⟩).mpr c2)]
        have : t < m := sq_lt_lt (by omega) (by omega)
        exact ih lo (m - 1) p1 p2 (by omega) (by omega) (by omega) k (by omega)
      · rw [if_neg (fun z => c2 ((lI_lt (b64_of32 bv) ⟨by omega, by omega⟩).mp z))]
        have : m < t + 1 := sq_lt_lt (by omega) (by omega)
        exact ih m hi (by omega) (by omega) p3 p4 (by omega) k (by omega)
theorem s_rootOf {N : Nat} (hN : 1048576 ≤ N) {v t : Int} (h : isq v t) (hv : v < 2147483648) : f_X11_rootOf N (iI v) = some (iI t) := by
  have h1 := h.1
  have h2 := h.2.1
  have h3 := sq_nn t
  unfold f_X11_rootOf
  rw [if_pos (by rw [i0, iI_le ⟨by decide, by decide⟩ ⟨by omega, by omega⟩]; omega)]
  exact ro_loop N h hv 16 0 46341 (by omega) h1 (isq_le h (by decide) (by omega)) (by omega) (by decide) N (by omega)
theorem s_rootOf_neg {N : Nat} {v : Int} (h : v < 0) (hv : -2147483648 ≤ v) : f_X11_rootOf N (iI v) = some (-1) := by
  unfold f_X11_rootOf
  rw [if_neg (by rw [i0, iI_le ⟨by decide, by decide⟩ ⟨by omega, by omega⟩]; omega)]
theorem s_floorMod32 {a m : Int} (ha : b32 a) (hm : 0 < m) (hb : b32 m) : f_J9_floorMod_7cf53 (iI a) (iI m) = some (iI (a % m)) := by
  have hq : b32 (a.tmod m) := by
    have := tm_bounds (a := a) hm; have := hb.1; have := hb.2
    by_cases h : 0 ≤ a
    · constructor <;> omega
    · constructor <;> omega
  unfold f_J9_floorMod_7cf53
  rw [if_neg (by rw [iI_0 hb]; omega)]
  simp only [iI_rem ha hb]
  simp only [Int32.xor_nonneg, iI_lt0 ha, iI_lt0 hb, iI_0 hq, iI_add]
  by_cases h1 : 0 ≤ a
  · rw [if_pos (by omega), ((td_em hm).1 (Or.inr h1)).1]
  · rw [if_neg (by omega)]
    by_cases h2 : a.tmod m = 0
    · rw [if_pos h2, ((td_em hm).1 (Or.inl h2)).1]
    · rw [if_neg h2, ((td_em hm).2 h2 (by omega)).1]
theorem b32_td2 {x : Int} (h1 : -1000000 ≤ x) (h2 : x ≤ 1000000) : b32 (x.tdiv 2) := by
  have e : (x.tdiv 2).natAbs = x.natAbs / 2 := Int.natAbs_tdiv x 2
  exact ⟨by omega, by omega⟩
def wb (a b w : Int) : Bool := decide (w = 0 ∨ (w = 1 ∧ 0 < a ∧ 0 ≤ b) ∨ (w = 2 ∧ a % 3 = 2 ∧ b % 3 = 0))
theorem wb_iff {a b w : Int} : wb a b w = true ↔ (w = 0 ∨ (w = 1 ∧ 0 < a ∧ 0 ≤ b) ∨ (w = 2 ∧ a % 3 = 2 ∧ b % 3 = 0)) := decide_eq_true_iff
theorem s_wanted {a b w : Int} (ha : b32 a) (hb : b32 b) (hw : 0 ≤ w ∧ w ≤ 2) : f_X7_isWanted (iI a) (iI b) (iI w) = some (if wb a b w then 1 else 0) := by
  have bw : b32 w := ⟨by omega, by omega⟩
  have e0 : (iI w = 0) = (w = 0) := propext (iI_0 bw)
  have e1 : (iI w = 1) = (w = 1) := propext (iI_eq bw (b := 1) ⟨by decide, by decide⟩)
  have e2 : (iI a ≤ 0) = (a ≤ 0) := propext (iI_le ha (b := 0) ⟨by decide, by decide⟩)
  have e3 : (iI b < 0) = (b < 0) := propext (iI_lt0 hb)
  have hm1 := Int.emod_nonneg a (show (3 : Int) ≠ 0 by decide)
  have hm2 := Int.emod_lt_of_pos a (show (0 : Int) < 3 by decide)
  have e4 : (iI (a % 3) = 2) = (a % 3 = 2) := propext (iI_eq ⟨by omega, by omega⟩ (b := 2) ⟨by decide, by decide⟩)
  have e5 : (iI b - iI b / 3 * 3 = 0) = (b % 3 = 0) := by
    rw [i3, iI_rem hb ⟨by decide, by decide⟩]
    have hq : b32 (b.tmod 3) := by
      have := tm_bounds (a := b) (m := 3) (by decide)
      by_cases h : 0 ≤ b
      · constructor <;> omega
      · constructor <;> omega
    rw [iI_0 hq]
    exact propext ⟨fun z => Int.emod_eq_zero_of_dvd (Int.dvd_of_tmod_eq_zero z), fun z => Int.tmod_eq_zero_of_dvd (Int.dvd_of_emod_eq_zero z)⟩
  have fm : f_J9_floorMod_7cf53 (iI a) 3 = some (iI (a % 3)) := s_floorMod32 ha (m := 3) (by decide) ⟨by decide, by decide⟩
  unfold f_X7_isWanted
  simp only [e0, e1, e2, e3, fm, Option.bind_some, e4, e5]
  by_cases c0 : w = 0
  · rw [if_pos c0, if_pos (wb_iff.mpr (Or.inl c0))]
  · rw [if_neg c0]
    by_cases c1 : w = 1
    · rw [if_pos c1]
      by_cases c2 : a ≤ 0
      · rw [if_pos c2, if_neg (fun z => by have := wb_iff.mp z; omega)]
      · rw [if_neg c2]
        by_cases c3 : b < 0
        · rw [if_pos c3, if_neg (fun z => by have := wb_iff.mp z; omega)]
        · rw [if_neg c3, if_pos (wb_iff.mpr (by omega))]
    · rw [if_neg c1]
      by_cases c2 : a % 3 = 2
      · rw [if_pos c2]
        by_cases c3 : b % 3 = 0
        · rw [if_pos c3, if_pos (wb_iff.mpr (by omega))]
        · rw [if_neg c3, if_neg (fun z => by have := wb_iff.mp z; omega)]
      · rw [if_neg c2, if_neg (fun z => by have := wb_iff.mp z; omega)]
/-- one side in the reference -/
theorem lr_side (N k : Nat) (k10 : Int32 → Int32 → Int32 → Int32 → Int32 → Int32 → Int32 → Option (Int32 × Int32 × Int32)) (n v : Int32) {w b s e : Int} (m A B : Int32) (hw : 0 ≤ w ∧ w ≤ 2) (hb : -1200 ≤ b ∧ b ≤ 1200) (hs : 0 ≤ s ∧ s ≤ 2000) (he : e = -1 ∨ e = 1) : f_X11_laysRing_73 N k10 (k + 1) n v (iI w) (iI b) (iI s) (iI e) m A B = (if wb ((b + e * s).tdiv 2) b w then (if m = v then f_X11_laysRing_73 N k10 k n v (iI w) (iI b) (iI s) (iI (e + 2)) (m + 1) (iI ((b + e * s).tdiv 2)) (iI b) else f_X11_laysRing_73 N k10 k n v (iI w) (iI b) (iI s) (iI (e + 2)) (m + 1) A B) else f_X11_laysRing_73 N k10 k n v (iI w) (iI b) (iI s) (iI (e + 2)) m A B) := by
  have hes : -2000 ≤ e * s ∧ e * s ≤ 2000 := by rcases he with rfl | rfl <;> omega
  have ba : b32 ((b + e * s).tdiv 2) := b32_td2 (by omega) (by omega)
  have bb : b32 b := ⟨by omega, by omega⟩
  have bw : b32 w := ⟨by omega, by omega⟩
  have e0 : (iI b + iI e * iI s) / 2 = iI ((b + e * s).tdiv 2) := by rw [iI_mul, iI_add, i2, iI_div ⟨by omega, by omega⟩ ⟨by decide, by decide⟩]
  have e1 : (iI w = 1) = (w = 1) := propext (iI_eq bw (b := 1) ⟨by decide, by decide⟩)
  have e2 : (iI w = 2) = (w = 2) := propext (iI_eq bw (b := 2) ⟨by decide, by decide⟩)
  have e3 : (iI ((b + e * s).tdiv 2) ≤ 0) = ((b + e * s).tdiv 2 ≤ 0) := propext (iI_le ba (b := 0) ⟨by decide, by decide⟩)
  have e4 : (iI b < 0) = (b < 0) := propext (iI_lt0 bb)
  have e5 : iI e + 2 = iI (e + 2) := by rw [i2, iI_add]
  have e6 := s_isPrimaryX (b64_of32 ba) (b64_of32 bb)
  rw [f_X11_laysRing_73, if_neg (by rcases he with rfl | rfl <;> decide), e0]
  unfold f_X11_laysRing_106 f_X11_laysRing_126
  generalize (b + e * s).tdiv 2 = a at *
  simp only [e1, e2, e3, e4, e5, iI_l ba, iI_l bb, e6, Option.bind_some]
  by_cases c1 : w = 1
  · have c2 : ¬ w = 2 := by omega
    simp only [c1, c2, if_true]
    rw [if_neg (show ¬ (1 : Int) = 2 by decide)]
    by_cases c3 : a ≤ 0
    · rw [if_pos c3, if_neg (fun z => by have := wb_iff.mp z; omega)]
    · rw [if_neg c3]
      by_cases c4 : b < 0
      · rw [if_pos c4, if_neg (fun z => by have := wb_iff.mp z; omega)]
      · rw [if_neg c4, if_pos (wb_iff.mpr (by omega))]
  · rw [if_neg c1]
    by_cases c2 : w = 2
    · rw [if_pos c2]
      by_cases c3 : a % 3 = 2 ∧ b % 3 = 0
      · rw [if_pos c3, if_neg (by decide), if_pos (wb_iff.mpr (by omega))]
      · rw [if_neg c3, if_pos rfl, if_neg (fun z => by have := wb_iff.mp z; omega)]
    · rw [if_neg c2, if_pos (wb_iff.mpr (by omega))]
theorem lr_side3 (N k : Nat) (k10 : Int32 → Int32 → Int32 → Int32 → Int32 → Int32 → Int32 → Option (Int32 × Int32 × Int32)) (n v w b s m A B : Int32) : f_X11_laysRing_73 N k10 (k + 1) n v w b s (iI 3) m A B = k10 n v w (b + 1) m A B := by
  rw [f_X11_laysRing_73, if_pos (by decide)]
/-- one side in the class -/
theorem sk_side (N k : Nat) (k22 : Int32 → Int32 → Int32 → Int32 → Int32 → Int32 → Int32 → Int32 → Int32 → Option (Int32 × Int32 × Int32)) (n v far : Int32) {w b s e : Int} (m A B : Int32) (hw : 0 ≤ w ∧ w ≤ 2) (hb : -1200 ≤ b ∧ b ≤ 1200) (hs : 0 ≤ s ∧ s ≤ 2000) (he : e = -1 ∨ e = 1) : f_X7_seek_76 N k22 (k + 1) n (iI w) v m far (iI s) (iI b) (iI e) A B = (if wb ((b + e * s).tdiv 2) b w then (if m = v then some (m + 1, iI ((b + e * s).tdiv 2), iI b) else f_X7_seek_76 N k22 k n (iI w) v (m + 1) far (iI s) (iI b) (iI (e + 2)) A B) else f_X7_seek_76 N k22 k n (iI w) v m far (iI s) (iI b) (iI (e + 2)) A B) := by
  have hes : -2000 ≤ e * s ∧ e * s ≤ 2000 := by rcases he with rfl | rfl <;> omega
  have ba : b32 ((b + e * s).tdiv 2) := b32_td2 (by omega) (by omega)
  have bb : b32 b := ⟨by omega, by omega⟩
  have e0 : (iI b + iI e * iI s) / 2 = iI ((b + e * s).tdiv 2) := by rw [iI_mul, iI_add, i2, iI_div ⟨by omega, by omega⟩ ⟨by decide, by decide⟩]
  have e5 : iI e + 2 = iI (e + 2) := by rw [i2, iI_add]
  have e6 : m + 1 - 1 = m := Int32.add_sub_cancel m 1
  rw [f_X7_seek_76, if_neg (by rcases he with rfl | rfl <;> decide), e0, s_wanted ba bb hw, Option.bind_some, e5, e6]
  generalize (b + e * s).tdiv 2 = a at *
  by_cases c : wb a b w = true
  · rw [if_pos c, if_neg (by decide), if_pos c]
  · rw [if_neg c, if_pos rfl, if_neg c]
theorem sk_side3 (N k : Nat) (k22 : Int32 → Int32 → Int32 → Int32 → Int32 → Int32 → Int32 → Int32 → Int32 → Option (Int32 × Int32 × Int32)) (n w v m far s b A B : Int32) : f_X7_seek_76 N k22 (k + 1) n w v m far s b (iI 3) A B = k22 n w v m far s (b + 1) A B := by
  rw [f_X7_seek_76, if_pos (by decide)]
theorem e_4n3 {n b : Int} : (4 : Int32) * iI n - ((3 : Int32) * iI b) * iI b = iI (4 * n - 3 * (b * b)) := by
  rw [i4, i3, iI_mul, iI_mul, iI_mul, iI_sub, Int.mul_assoc]
/-- what the reference does with the rest, once it is found -/
theorem lr_end {N : Nat} (hN : 1048576 ≤ N) {n : Int} (hn : 0 ≤ n ∧ n ≤ 1000000) (v : Int32) {w : Int} (hw : 0 ≤ w ∧ w ≤ 2) : ∀ (m : Nat) (b : Int), -1200 ≤ b → b + m = 1201 → ∀ k : Nat, m < k → ∀ (r : Nat) (A B : Int32), r + 2 * m < 100000 → (∀ j : Nat, r ≤ j → j < 100000 → nI j ≠ v) → ∃ r' : Nat, r ≤ r' ∧ r' < 100000 ∧ f_X11_laysRing_10 N k (iI n) v (iI w) (iI b) (nI r) A B = some (nI r', A, B) := by
  intro m
  induction m with
  | zero =>
    intro b h1 h2 k hk r A B hr hv
    obtain rfl : b = 1201 := by omega
    obtain ⟨k, rfl⟩ : ∃ k', k = k' + 1 := ⟨k - 1, by omega⟩
    exact ⟨r, Nat.le_refl _, by omega, by rw [f_X11_laysRing_10, if_pos (by decide)]⟩
  | succ m ih =>
    intro b h1 h2 k hk r A B hr hv
    obtain ⟨k, rfl⟩ : ∃ k', k = k' + 1 := ⟨k - 1, by omega⟩
    have hb2 : b ≤ 1200 := by omega
    have bsq := sq_le h1 hb2
    have bsq0 := sq_nn b
    have e1 : iI b + 1 = iI (b + 1) := by rw [i1, iI_add]
    have nx : ∀ r2 : Nat, r ≤ r2 → r2 ≤ r + 2 → ∃ r' : Nat, r ≤ r' ∧ r' < 100000 ∧ f_X11_laysRing_10 N k (iI n) v (iI w) (iI b + 1) (nI r2) A B = some (nI r', A, B) := by
      intro r2 p1 p2
      obtain ⟨r', q1, q2, q3⟩ := ih (b + 1) (by omega) (by omega) k (by omega) r2 A B (by omega) (fun j p q => hv j (by omega) q)
      exact ⟨r', by omega, q2, by rw [e1]; exact q3⟩
    rw [f_X11_laysRing_10, if_neg (by show ¬ iI 1200 < iI b; rw [iI_lt ⟨by decide, by decide⟩ ⟨by omega, by omega⟩]; omega), e_4n3]
    by_cases c : 4 * n - 3 * (b * b) < 0
    · rw [s_rootOf_neg c (by omega), Option.bind_some, if_pos (by decide)]
      exact nx r (Nat.le_refl _) (by omega)
    · obtain ⟨s, hs⟩ := isq_ex (v := 4 * n - 3 * (b * b)) (by omega)
      have s2 : s ≤ 2000 := isq_le hs (by decide) (by omega)
      have s1 := hs.1
      have ssq := sq_mono s1 s2
      have ssq0 := sq_nn s
      rw [s_rootOf hN hs (by omega), Option.bind_some, if_neg (by rw [iI_lt0 ⟨by omega, by omega⟩]; omega), iI_mul]
      by_cases c2 : s * s = 4 * n - 3 * (b * b)
      · rw [if_pos (by rw [c2])]
        have step3 : ∀ (f r2 : Nat), 0 < f → r ≤ r2 → r2 ≤ r + 2 → ∃ r' : Nat, r ≤ r' ∧ r' < 100000 ∧ f_X11_laysRing_73 N (f_X11_laysRing_10 N k) f (iI n) v (iI w) (iI b) (iI s) (iI 3) (nI r2) A B = some (nI r', A, B) := by
          intro f r2 hf p1 p2
          obtain ⟨f, rfl⟩ : ∃ f', f = f' + 1 := ⟨f - 1, by omega⟩
          rw [lr_side3]; exact nx r2 p1 p2
        have step1 : ∀ (f r2 : Nat), 1 < f → r ≤ r2 → r2 ≤ r + 1 → ∃ r' : Nat, r ≤ r' ∧ r' < 100000 ∧ f_X11_laysRing_73 N (f_X11_laysRing_10 N k) f (iI n) v (iI w) (iI b) (iI s) (iI 1) (nI r2) A B = some (nI r', A, B) := by
          intro f r2 hf p1 p2
          obtain ⟨f, rfl⟩ : ∃ f', f = f' + 1 := ⟨f - 1, by omega⟩
          rw [lr_side N f _ _ _ _ _ _ hw ⟨h1, hb2⟩ ⟨s1, s2⟩ (Or.inr rfl), if_neg (hv r2 p1 (by omega)), nI_1]
          split
          · exact step3 f (r2 + 1) (by omega) (by omega) (by omega)
          · exact step3 f r2 (by omega) (by omega) (by omega)
        by_cases c3 : iI s = 0
        · rw [if_pos c3]; exact step1 N r (by omega) (Nat.le_refl _) (by omega)
        · rw [if_neg c3]
          obtain ⟨M, rfl⟩ : ∃ M, N = M + 1 := ⟨N - 1, by omega⟩
          have L := lr_side (M + 1) M (f_X11_laysRing_10 (M + 1) k) (iI n) v (nI r) A B hw ⟨h1, hb2⟩ ⟨s1, s2⟩ (Or.inl rfl)
          rw [if_neg (hv r (Nat.le_refl _) (by omega)), nI_1] at L
          have L' : f_X11_laysRing_73 (M + 1) (f_X11_laysRing_10 (M + 1) k) (M + 1) (iI n) v (iI w) (iI b) (iI s) (-1) (nI r) A B = _ := L
          rw [L']
          split
          · exact step1 M (r + 1) (by omega) (by omega) (by omega)
          · exact step1 M r (by omega) (by omega) (by omega)
      · rw [if_neg (fun z => c2 ((iI_eq ⟨by omega, by omega⟩ ⟨by omega, by omega⟩).mp z))]
        exact nx r (Nat.le_refl _) (by omega)
/-- where 4 n is below 3 b b the reference passes on -/
theorem lr_neg {N : Nat} {n : Int} (hn : 0 ≤ n ∧ n ≤ 1000000) (v w : Int32) (r A B : Int32) : ∀ (m : Nat) (b : Int), -1200 ≤ b → b + m ≤ 1201 → (∀ c : Int, b ≤ c → c < b + m → 4 * n < 3 * (c * c)) → ∀ k : Nat, f_X11_laysRing_10 N (k + m) (iI n) v w (iI b) r A B = f_X11_laysRing_10 N k (iI n) v w (iI (b + m)) r A B := by
  intro m
  induction m with
  | zero =>
    intro b h1 h2 h3 k
    have e : b + ((0 : Nat) : Int) = b := by omega
    rw [e]; rfl
  | succ m ih =>
    intro b h1 h2 h3 k
    have hb2 : b ≤ 1200 := by omega
    have bsq := sq_le h1 hb2
    have hc := h3 b (by omega) (by omega)
    have e1 : iI b + 1 = iI (b + 1) := by rw [i1, iI_add]
    have e2 : b + ((m + 1 : Nat) : Int) = b + 1 + (m : Int) := by omega
    rw [← Nat.add_assoc, f_X11_laysRing_10, if_neg (by show ¬ iI 1200 < iI b; rw [iI_lt ⟨by decide, by decide⟩ ⟨by omega, by omega⟩]; omega), e_4n3, s_rootOf_neg (by omega) (by omega), Option.bind_some, if_pos (by decide), e1, e2]
    exact ih (b + 1) (by omega) (by omega) (fun c p q => h3 c (by omega) (by omega)) k
/-- both ended: as many came, or it was found on both sides -/
def rcl (v : Int32) (y z : Int32 × Int32 × Int32) : Prop := (∃ c : Nat, c < 100000 ∧ y.1 = nI c ∧ z.1 = nI c ∧ ∀ j : Nat, j < c → nI j ≠ v) ∨ (∃ k r : Nat, k < r ∧ r < 100000 ∧ v = nI k ∧ y.1 = nI (k + 1) ∧ z.1 = nI r ∧ y.2 = z.2)
theorem ring_loop {N : Nat} (hN : 1048576 ≤ N) {n far : Int} (hn : 0 ≤ n ∧ n ≤ 1000000) (hf : isq ((4 * n) / 3) far) (v : Int32) {w : Int} (hw : 0 ≤ w ∧ w ≤ 2) : ∀ (m : Nat) (b : Int), -far ≤ b → b + m = far + 1 → ∀ k k' : Nat, m < k → m + 1000 < k' → ∀ (c : Nat) (s : Int) (fA fB A B : Int32), 0 ≤ s → s ≤ 2000 → c + 2 * m < 90000 → (∀ j : Nat, j < c → nI j ≠ v) → ∃ y z, f_X7_seek_22 N k (iI n) (iI w) v (nI c) (iI far) (iI s) (iI b) fA fB = some y ∧ f_X11_laysRing_10 N (k' + 4000) (iI n) v (iI w) (iI b) (nI c) A B = some z ∧ rcl v y z := by
  have hf1 := hf.1
  have hf2 := hf.2.1
  have hf3 := hf.2.2
  have hfar : far ≤ 1155 := isq_le hf (by decide) (by omega)
  intro m
  induction m with
  | zero =>
    intro b h1 h2 k k' hk hk' c s fA fB A B p1 p2 hc hv
    obtain rfl : b = far + 1 := by omega
    obtain ⟨k, rfl⟩ : ∃ k'', k = k'' + 1 := ⟨k - 1, by omega⟩
    rw [f_X7_seek_22, if_pos (by rw [iI_lt ⟨by omega, by omega⟩ ⟨by omega, by omega⟩]; omega)]
    refine ⟨_, (nI c, A, B), rfl, ?_, Or.inl ⟨c, by omega, rfl, rfl, hv⟩⟩
    obtain ⟨d, hd⟩ : ∃ d : Nat, (d : Int) = 1201 - (far + 1) := ⟨(1201 - (far + 1)).toNat, by omega⟩
    have := lr_neg (N := N) hn v (iI w) (nI c) A B d (far + 1) (by omega) (by omega) (fun x q1 q2 => by
      have := sq_mono (show 0 ≤ far + 1 by omega) q1
      omega) (k' + 4000 - d)
    have e : k' + 4000 - d + d = k' + 4000 := by omega
    rw [e] at this
    rw [this]
    have e2 : far + 1 + (d : Int) = 1201 := by omega
    rw [e2]
    obtain ⟨q, hq⟩ : ∃ q, k' + 4000 - d = q + 1 := ⟨k' + 4000 - d - 1, by omega⟩
    rw [hq, f_X11_laysRing_10, if_pos (by decide)]
  | succ m ih =>
    intro b h1 h2 k k' hk hk' c s fA fB A B p1 p2 hc hv
    obtain ⟨k, rfl⟩ : ∃ k'', k = k'' + 1 := ⟨k - 1, by omega⟩
    obtain ⟨k', rfl⟩ : ∃ k'', k' = k'' + 1 := ⟨k' - 1, by omega⟩
    have hb2 : b ≤ far := by omega
    have bsq := sq_le h1 hb2
    have bsq0 := sq_nn b
    have e1 : iI b + 1 = iI (b + 1) := by rw [i1, iI_add]
    obtain ⟨t, ht⟩ := isq_ex (v := 4 * n - 3 * (b * b)) (by omega)
    have t2 : t ≤ 2000 := isq_le ht (by decide) (by omega)
    have t1 := ht.1
    have tsq := sq_mono t1 t2
    have tsq0 := sq_nn t
    have nx : ∀ (c2 : Nat) (fA fB A B : Int32), c2 + 2 * m < 90000 → (∀ j : Nat, j < c2 → nI j ≠ v) → ∃ y z, f_X7_seek_22 N k (iI n) (iI w) v (nI c2) (iI far) (iI t) (iI b + 1) fA fB = some y ∧ f_X11_laysRing_10 N (k' + 4000) (iI n) v (iI w) (iI b + 1) (nI c2) A B = some z ∧ rcl v y z := by
      intro c2 fA fB A B q1 q2
      rw [e1]
      exact ih (b + 1) (by omega) (by omega) k k' (by omega) (by omega) c2 t fA fB A B t1 t2 q1 q2
    have eK : k' + 1 + 4000 = k' + 4000 + 1 := by omega
    rw [eK, f_X7_seek_22, f_X11_laysRing_10, if_neg (by rw [iI_lt ⟨by omega, by omega⟩ ⟨by omega, by omega⟩]; omega), if_neg (show ¬ (1200 : Int32) < iI b by show ¬ iI 1200 < iI b; rw [iI_lt ⟨by decide, by decide⟩ ⟨by omega, by omega⟩]; omega), e_4n3, s_rootFrom hN ht (by omega) p1 (by omega), s_rootOf hN ht (by omega), Option.bind_some, Option.bind_some, if_neg (show ¬ iI t < 0 by rw [iI_lt0 ⟨by omega, by omega⟩]; omega), iI_mul]
    by_cases c2 : t * t = 4 * n - 3 * (b * b)
    · have c2' : iI (t * t) = iI (4 * n - 3 * (b * b)) := by rw [c2]
      rw [if_pos c2', if_pos c2']
      have hb3 : -1200 ≤ b ∧ b ≤ 1200 := ⟨by omega, by omega⟩
      have step3 : ∀ (f f' c2 : Nat) (fA fB A B : Int32), 0 < f → 0 < f' → c2 + 2 * m < 90000 → (∀ j : Nat, j < c2 → nI j ≠ v) → ∃ y z, f_X7_seek_76 N (f_X7_seek_22 N k) f (iI n) (iI w) v (nI c2) (iI far) (iI t) (iI b) (iI 3) fA fB = some y ∧ f_X11_laysRing_73 N (f_X11_laysRing_10 N (k' + 4000)) f' (iI n) v (iI w) (iI b) (iI t) (iI 3) (nI c2) A B = some z ∧ rcl v y z := by
        intro f f' c2 fA fB A B q1 q2 q3 q4
        obtain ⟨f, rfl⟩ : ∃ f2, f = f2 + 1 := ⟨f - 1, by omega⟩
        obtain ⟨f', rfl⟩ : ∃ f2, f' = f2 + 1 := ⟨f' - 1, by omega⟩
        rw [sk_side3, lr_side3]
        exact nx c2 fA fB A B q3 q4
      have found3 : ∀ (f' r : Nat) (A B : Int32), 0 < f' → r < 90000 → (∀ j : Nat, r ≤ j → j < 100000 → nI j ≠ v) → ∃ r' : Nat, r ≤ r' ∧ r' < 100000 ∧ f_X11_laysRing_73 N (f_X11_laysRing_10 N (k' + 4000)) f' (iI n) v (iI w) (iI b) (iI t) (iI 3) (nI r) A B = some (nI r', A, B) := by
        intro f' r A B q1 q2 q3
        obtain ⟨f', rfl⟩ : ∃ f2, f' = f2 + 1 := ⟨f' - 1, by omega⟩
        rw [lr_side3, e1]
        exact lr_end hN hn v hw (1201 - (b + 1)).toNat (b + 1) (by omega) (by omega) (k' + 4000) (by omega) r A B (by omega) q3
      have found1 : ∀ (f' r : Nat) (A B : Int32), 1 < f' → r + 1 < 90000 → (∀ j : Nat, r ≤ j → j < 100000 → nI j ≠ v) → ∃ r' : Nat, r ≤ r' ∧ r' < 100000 ∧ f_X11_laysRing_73 N (f_X11_laysRing_10 N (k' + 4000)) f' (iI n) v (iI w) (iI b) (iI t) (iI 1) (nI r) A B = some (nI r', A, B) := by
        intro f' r A B q1 q2 q3
        obtain ⟨f', rfl⟩ : ∃ f2, f' = f2 + 1 := ⟨f' - 1, by omega⟩
        rw [lr_side N f' _ _ _ _ _ _ hw hb3 ⟨t1, t2⟩ (Or.inr rfl), if_neg (q3 r (Nat.le_refl _) (by omega)), nI_1]
        split
        · obtain ⟨r', u1, u2, u3⟩ := found3 f' (r + 1) A B (by omega) (by omega) (fun j p q => q3 j (by omega) q)
          exact ⟨r', by omega, u2, u3⟩
        · exact found3 f' r A B (by omega) (by omega) q3
      have isk : ∀ c3 : Nat, c3 < 100000 → nI c3 = v → ∀ j : Nat, c3 + 1 ≤ j → j < 100000 → nI j ≠ v := by
        intro c3 q1 q2 j q3 q4 z
        rw [← q2] at z
        have := (nI_eq (by omega) (by omega)).mp z
        omega
      have step1 : ∀ (f f' c2 : Nat) (fA fB A B : Int32), 1 < f → 1 < f' → c2 + 1 + 2 * m < 90000 → (∀ j : Nat, j < c2 → nI j ≠ v) → ∃ y z, f_X7_seek_76 N (f_X7_seek_22 N k) f (iI n) (iI w) v (nI c2) (iI far) (iI t) (iI b) (iI 1) fA fB = some y ∧ f_X11_laysRing_73 N (f_X11_laysRing_10 N (k' + 4000)) f' (iI n) v (iI w) (iI b) (iI t) (iI 1) (nI c2) A B = some z ∧ rcl v y z := by
        intro f f' c2 fA fB A B q1 q2 q3 q4
        obtain ⟨f, rfl⟩ : ∃ f2, f = f2 + 1 := ⟨f - 1, by omega⟩
        obtain ⟨f', rfl⟩ : ∃ f2, f' = f2 + 1 := ⟨f' - 1, by omega⟩
        rw [sk_side N f _ _ _ _ _ _ _ hw hb3 ⟨t1, t2⟩ (Or.inr rfl), lr_side N f' _ _ _ _ _ _ hw hb3 ⟨t1, t2⟩ (Or.inr rfl), nI_1]
        by_cases cw : wb ((b + 1 * t).tdiv 2) b w = true
        · rw [if_pos cw, if_pos cw]
          by_cases cv : nI c2 = v
          · rw [if_pos cv, if_pos cv]
            obtain ⟨r', u1, u2, u3⟩ := found3 f' (c2 + 1) (iI ((b + 1 * t).tdiv 2)) (iI b) (by omega) (by omega) (isk c2 (by omega) cv)
            exact ⟨_, _, rfl, u3, Or.inr ⟨c2, r', by omega, u2, cv.symm, rfl, rfl, rfl⟩⟩
          · rw [if_neg cv, if_neg cv]
            exact step3 f f' (c2 + 1) fA fB A B (by omega) (by omega) (by omega) (fun j p => by
              by_cases e : j = c2
              · rw [e]; exact cv
              · exact q4 j (by omega))
        · rw [if_neg cw, if_neg cw]
          exact step3 f f' c2 fA fB A B (by omega) (by omega) (by omega) q4
      by_cases c3 : iI t = 0
      · rw [if_pos c3, if_pos c3]
        exact step1 N N c fA fB A B (by omega) (by omega) (by omega) hv
      · rw [if_neg c3, if_neg c3]
        obtain ⟨M, hM⟩ : ∃ M, N = M + 1 := ⟨N - 1, by omega⟩
        have L := lr_side N M (f_X11_laysRing_10 N (k' + 4000)) (iI n) v (nI c) A B hw hb3 ⟨t1, t2⟩ (Or.inl rfl)
        have K := sk_side N M (f_X7_seek_22 N k) (iI n) v (iI far) (nI c) fA fB hw hb3 ⟨t1, t2⟩ (Or.inl rfl)
        rw [← hM, nI_1] at L K
        have L' : f_X11_laysRing_73 N (f_X11_laysRing_10 N (k' + 4000)) N (iI n) v (iI w) (iI b) (iI t) (-1) (nI c) A B = _ := L
        have K' : f_X7_seek_76 N (f_X7_seek_22 N k) N (iI n) (iI w) v (nI c) (iI far) (iI t) (iI b) (-1) fA fB = _ := K
        rw [L', K']
        by_cases cw : wb ((b + -1 * t).tdiv 2) b w = true
        · rw [if_pos cw, if_pos cw]
          by_cases cv : nI c = v
          · rw [if_pos cv, if_pos cv]
            obtain ⟨r', u1, u2, u3⟩ := found1 M (c + 1) (iI ((b + -1 * t).tdiv 2)) (iI b) (by omega) (by omega) (isk c (by omega) cv)
            exact ⟨_, _, rfl, u3, Or.inr ⟨c, r', by omega, u2, cv.symm, rfl, rfl, rfl⟩⟩
          · rw [if_neg cv, if_neg cv]
            exact step1 M M (c + 1) fA fB A B (by omega) (by omega) (by omega) (fun j p => by
              by_cases e : j = c
              · rw [e]; exact cv
              · exact hv j (by omega))
        · rw [if_neg cw, if_neg cw]
          exact step1 M M c fA fB A B (by omega) (by omega) (by omega) hv
    · have c2' : ¬ iI (t * t) = iI (4 * n - 3 * (b * b)) := fun z => c2 ((iI_eq ⟨by omega, by omega⟩ ⟨by omega, by omega⟩).mp z)
      rw [if_neg c2', if_neg c2']
      exact nx c fA fB A B (by omega) hv
theorem s_rings {N : Nat} (hN : 1048576 ≤ N) {n : Int} (hn : 0 ≤ n ∧ n ≤ 1000000) (v : Int32) {w : Int} (hw : 0 ≤ w ∧ w ≤ 2) (fA fB A B : Int32) : ∃ y z, f_X7_seek N (iI n) (iI w) v fA fB = some y ∧ f_X11_laysRing N (iI n) v (iI w) A B = some z ∧ rcl v y z := by
  obtain ⟨far, hf⟩ := isq_ex (v := (4 * n) / 3) (by omega)
  have hf1 := hf.1
  have hf2 := hf.2.1
  have hf3 := hf.2.2
  have hfar : far ≤ 1155 := isq_le hf (by decide) (by omega)
  have e0 : (4 : Int32) * iI n / 3 = iI ((4 * n) / 3) := by rw [i4, i3, iI_mul, iI_div ⟨by omega, by omega⟩ ⟨by decide, by decide⟩, Int.tdiv_eq_ediv_of_nonneg (by omega)]
  unfold f_X7_seek f_X11_laysRing
  rw [e0, i0, s_rootFrom hN hf (by omega) (by omega) (by omega), Option.bind_some, iI_neg]
  obtain ⟨d, hd⟩ : ∃ d : Nat, (d : Int) = 1200 - far := ⟨(1200 - far).toNat, by omega⟩
  have e2 : (-1200 : Int) + (d : Int) = -far := by omega
  have L := lr_neg (N := N) hn v (iI w) (nI 0) A B d (-1200) (by omega) (by omega) (fun x q1 q2 => by
    have := sq_mono (show 0 ≤ far + 1 by omega) (show far + 1 ≤ -x by omega)
    have e : -x * -x = x * x := Int.neg_mul_neg x x
    omega) (N - d)
  have e3 : N - d + d = N := by omega
  rw [e3, e2] at L
  have L' : f_X11_laysRing_10 N N (iI n) v (iI w) (-1200) (iI 0) A B = _ := L
  rw [L']
  obtain ⟨y, z, h1, h2, h3⟩ := ring_loop hN hn hf v hw (2 * far + 1).toNat (-far) (by omega) (by omega) N (N - d - 4000) (by omega) (by omega) 0 0 fA fB A B (by omega) (by omega) (by omega) (fun j p => absurd p (by omega))
  have e4 : N - d - 4000 + 4000 = N - d := by omega
  rw [e4] at h2
  exact ⟨y, z, h1, h2, h3⟩
theorem nm1 {c : Nat} (h : c < 2147483648) : nI c ≠ (-1 : Int32) := by
  intro z
  rw [iI_nI, im1] at z
  have := (iI_eq ⟨by omega, by omega⟩ ⟨by decide, by decide⟩).mp z
  omega
theorem q_ring (N : Nat) (hN : 1048576 ≤ N) (v1 v2 : Int32) (m_drawers_full m_drawers_kept : Int32) (m_drawers_partA m_drawers_partB m_drawers_keptA m_drawers_keptB m_drawers_keptFull : Nat → Int32) (m_tape_size : Int32) (m_tape_bytes : Nat → Int32) (m_primes_count : Int32) (m_primes_primeA m_primes_primeB : Nat → Int32) (m_rings_foundA m_rings_foundB m_taped m_states m_listed m_rings m_ringA m_ringB : Int32) (m_tape m_has m_keptHas m_first m_second m_keptFirst m_keptSecond m_la0 m_lb0 : Nat → Int32) (hR : kR m_drawers_full m_drawers_kept m_drawers_partA m_drawers_partB m_drawers_keptA m_drawers_keptB m_drawers_keptFull m_tape_size m_tape_bytes m_primes_count m_primes_primeA m_primes_primeB m_taped m_tape m_has m_keptHas m_first m_second m_keptFirst m_keptSecond m_states m_la0 m_lb0 m_listed) : ∃ (y : Int32 × Int32 × Int32) (z : Int32 × Int32 × Int32 × Int32), f_X10_ring N v1 v2 m_rings_foundA m_rings_foundB = some y ∧ f_X11_ring N v1 v2 m_rings m_ringA m_ringB = some z ∧ y.1 = z.1 ∧ kR m_drawers_full m_drawers_kept m_drawers_partA m_drawers_partB m_drawers_keptA m_drawers_keptB m_drawers_keptFull m_tape_size m_tape_bytes m_primes_count m_primes_primeA m_primes_primeB m_taped m_tape m_has m_keptHas m_first m_second m_keptFirst m_keptSecond m_states m_la0 m_lb0 m_listed := by
  have hR0 := hR
  obtain ⟨n, hn, rfl⟩ := iI_of v1
  obtain ⟨w, hw, rfl⟩ := iI_of v2
  have in1 : f_X11_in (iI n).toInt64 0 1000000 = some (if 0 ≤ n ∧ n ≤ 1000000 then 1 else 0) := s_in32 hn (l := 0) (h := 1000000) ⟨by decide, by decide⟩ ⟨by decide, by decide⟩
  have in2 : f_X11_in (iI w).toInt64 0 2 = some (if 0 ≤ w ∧ w ≤ 2 then 1 else 0) := s_in32 hw (l := 0) (h := 2) ⟨by decide, by decide⟩ ⟨by decide, by decide⟩
  have le2 : (iI w ≤ 2) = (w ≤ 2) := propext (iI_le (b := 2) hw ⟨by decide, by decide⟩)
  have q1 : (iI n < 0) = (n < 0) := propext (iI_lt0 hn)
  have q2 : (iI w < 0) = (w < 0) := propext (iI_lt0 hw)
  have q3 : ((1000000 : Int32) < iI n) = (1000000 < n) := propext (iI_lt (a := 1000000) ⟨by decide, by decide⟩ hn)
  unfold f_X10_ring f_X11_ring
  simp only [in1, in2, le2, q1, q2, q3, Option.bind_some]
  by_cases cn : 0 ≤ n ∧ n ≤ 1000000
  · rw [if_neg (show ¬ n < 0 by omega), if_neg (show ¬ 1000000 < n by omega), if_pos cn, if_neg (show ¬ (1 : Int32) = 0 by decide)]
    by_cases cw : 0 ≤ w ∧ w ≤ 2
    · rw [if_neg (show ¬ w < 0 by omega), if_pos cw.2, if_pos cw, if_neg (show ¬ (1 : Int32) = 0 by decide)]
      obtain ⟨y, z, h1, h2, h3⟩ := s_rings hN cn (-1) cw m_rings_foundA m_rings_foundB m_ringA m_ringB
      rw [h1, h2, Option.bind_some, Option.bind_some]
      refine ⟨_, _, rfl, rfl, ?_, hR0⟩
      rcases h3 with ⟨c, -, h4, h5, -⟩ | ⟨k, r, h4, h5, h6, -⟩
      · show y.1 = z.1; rw [h4, h5]
      · exact absurd h6.symm (nm1 (by omega))
    · rw [if_neg cw, if_pos rfl]
      by_cases c2 : w < 0
      · rw [if_pos c2]; exact ⟨_, _, rfl, rfl, rfl, hR0⟩
      · rw [if_neg c2, if_neg (by omega)]; exact ⟨_, _, rfl, rfl, rfl, hR0⟩
  · rw [if_neg cn, if_pos rfl]
    by_cases c2 : n < 0
    · rw [if_pos c2]; exact ⟨_, _, rfl, rfl, rfl, hR0⟩
    · rw [if_neg c2, if_pos (by omega)]; exact ⟨_, _, rfl, rfl, rfl, hR0⟩
theorem q_ringAt (N : Nat) (hN : 1048576 ≤ N) (v1 v2 v3 : Int32) (m_drawers_full m_drawers_kept : Int32) (m_drawers_partA m_drawers_partB m_drawers_keptA m_drawers_keptB m_drawers_keptFull : Nat → Int32) (m_tape_size : Int32) (m_tape_bytes : Nat → Int32) (m_primes_count : Int32) (m_primes_primeA m_primes_primeB : Nat → Int32) (m_rings_foundA m_rings_foundB m_taped m_states m_listed m_rings m_ringA m_ringB : Int32) (m_tape m_has m_keptHas m_first m_second m_keptFirst m_keptSecond m_la0 m_lb0 : Nat → Int32) (hR : kR m_drawers_full m_drawers_kept m_drawers_partA m_drawers_partB m_drawers_keptA m_drawers_keptB m_drawers_keptFull m_tape_size m_tape_bytes m_primes_count m_primes_primeA m_primes_primeB m_taped m_tape m_has m_keptHas m_first m_second m_keptFirst m_keptSecond m_states m_la0 m_lb0 m_listed) : ∃ (y : Int32 × Int32 × Int32) (z : Int32 × Int32 × Int32 × Int32), f_X10_ringAt N v1 v2 v3 m_rings_foundA m_rings_foundB = some y ∧ f_X11_ringAt N v1 v2 v3 m_rings m_ringA m_ringB = some z ∧ y.1 = z.1 ∧ kR m_drawers_full m_drawers_kept m_drawers_partA m_drawers_partB m_drawers_keptA m_drawers_keptB m_drawers_keptFull m_tape_size m_tape_bytes m_primes_count m_primes_primeA m_primes_primeB m_taped m_tape m_has m_keptHas m_first m_second m_keptFirst m_keptSecond m_states m_la0 m_lb0 m_listed := by
  have hR0 := hR
  obtain ⟨n, hn, rfl⟩ := iI_of v1
  obtain ⟨w, hw, rfl⟩ := iI_of v3
  have in1 : f_X11_in (iI n).toInt64 0 1000000 = some (if 0 ≤ n ∧ n ≤ 1000000 then 1 else 0) := s_in32 hn (l := 0) (h := 1000000) ⟨by decide, by decide⟩ ⟨by decide, by decide⟩
  have in2 : f_X11_in (iI w).toInt64 0 1 = some (if 0 ≤ w ∧ w ≤ 1 then 1 else 0) := s_in32 hw (l := 0) (h := 1) ⟨by decide, by decide⟩ ⟨by decide, by decide⟩
  have le2 : (iI w ≤ 1) = (w ≤ 1) := propext (iI_le (b := 1) hw ⟨by decide, by decide⟩)
  have q1 : (iI n < 0) = (n < 0) := propext (iI_lt0 hn)
  have q2 : (iI w < 0) = (w < 0) := propext (iI_lt0 hw)
  have q3 : ((1000000 : Int32) < iI n) = (1000000 < n) := propext (iI_lt (a := 1000000) ⟨by decide, by decide⟩ hn)
  unfold f_X10_ringAt f_X11_ringAt
  simp only [in1, in2, le2, q1, q2, q3, Option.bind_some]
  by_cases cn : 0 ≤ n ∧ n ≤ 1000000
  · rw [if_neg (show ¬ n < 0 by omega), if_neg (show ¬ 1000000 < n by omega), if_pos cn, if_neg (show ¬ (1 : Int32) = 0 by decide)]
    by_cases cw : 0 ≤ w ∧ w ≤ 1
    · rw [if_neg (show ¬ w < 0 by omega), if_pos cw.2, if_pos cw, if_neg (show ¬ (1 : Int32) = 0 by decide)]
      by_cases ck : v2 < 0
      · have ck' : ¬ 0 ≤ v2 := by
          rw [Int32.lt_iff_toInt_lt] at ck
          rw [Int32.le_iff_toInt_le]; omega
        rw [if_pos ck, if_neg ck']; exact ⟨_, _, rfl, rfl, rfl, hR0⟩
      · have ck' : 0 ≤ v2 := by
          rw [Int32.lt_iff_toInt_lt] at ck
          rw [Int32.le_iff_toInt_le]; omega
        rw [if_neg ck, if_pos ck']
        obtain ⟨j, hj, rfl⟩ := nI_of ck
        obtain ⟨y, z, h1, h2, h3⟩ := s_rings hN cn (nI j) (w := 0) ⟨by omega, by omega⟩ m_rings_foundA m_rings_foundB m_ringA m_ringB
        have h1' : f_X7_seek N (iI n) 0 (nI j) m_rings_foundA m_rings_foundB = some y := h1
        have h2' : f_X11_laysRing N (iI n) (nI j) 0 m_ringA m_ringB = some z := h2
        rw [h1', h2', Option.bind_some, Option.bind_some]
        rcases h3 with ⟨c, hc, h4, h5, h6⟩ | ⟨k, r, h4, h5, h6, h7, h8, h9⟩
        · have : ¬ j < c := fun z => h6 j z rfl
          rw [h4, h5, if_neg (nI_nlt (by omega) hj), if_pos (nI_le (by omega) hj)]
          exact ⟨_, _, rfl, rfl, rfl, hR0⟩
        · have : j = k := (nI_eq hj (by omega)).mp h6
          subst this
          rw [h7, h8, if_pos (nI_lt (by omega) (by omega)), if_neg (nI_ge (by omega) (by omega)), h9]
          by_cases c0 : iI w = 0
          · rw [if_pos c0, if_pos c0]; exact ⟨_, _, rfl, rfl, rfl, hR0⟩
          · rw [if_neg c0, if_neg c0]; exact ⟨_, _, rfl, rfl, rfl, hR0⟩
    · rw [if_neg cw, if_pos rfl]
      by_cases ck : v2 < 0
      · rw [if_pos ck]; exact ⟨_, _, rfl, rfl, rfl, hR0⟩
      · rw [if_neg ck]
        by_cases c2 : w < 0
        · rw [if_pos c2]; exact ⟨_, _, rfl, rfl, rfl, hR0⟩
        · rw [if_neg c2, if_neg (by omega)]; exact ⟨_, _, rfl, rfl, rfl, hR0⟩
  · rw [if_neg cn, if_pos rfl]
    by_cases c2 : n < 0
    · rw [if_pos c2]; exact ⟨_, _, rfl, rfl, rfl, hR0⟩
    · rw [if_neg c2, if_pos (by omega)]; exact ⟨_, _, rfl, rfl, rfl, hR0⟩
/-- a row of the disk in the reference -/
theorem row_its {s b : Int} (hs : 0 ≤ s ∧ s ≤ 2000) (hb : -1200 ≤ b ∧ b ≤ 1200) : (b + s) / 2 + (s - b) / 2 + 1 = (if (s + b).tmod 2 = 0 then s + 1 else s) := by
  by_cases c : (s + b).tmod 2 = 0
  · rw [if_pos c]
    have := Int.emod_eq_zero_of_dvd (Int.dvd_of_tmod_eq_zero c)
    omega
  · rw [if_neg c]
    have : (s + b) % 2 ≠ 0 := fun z => c (Int.tmod_eq_zero_of_dvd (Int.dvd_of_emod_eq_zero z))
    omega
theorem dk_neg {N : Nat} {n : Int} (hn : 0 ≤ n ∧ n ≤ 1000000) (w al mo : Int32) : ∀ (m : Nat) (b : Int), -1200 ≤ b → b + m ≤ 1201 → (∀ c : Int, b ≤ c → c < b + m → 4 * n < 3 * (c * c)) → ∀ k : Nat, f_X11_disk_34 N (k + m) (iI n) w al mo (iI b) = f_X11_disk_34 N k (iI n) w al mo (iI (b + m)) := by
  intro m
  induction m with
  | zero =>
    intro b h1 h2 h3 k
    have e : b + ((0 : Nat) : Int) = b := by omega
    rw [e]; rfl
  | succ m ih =>
    intro b h1 h2 h3 k
    have hb2 : b ≤ 1200 := by omega
    have bsq := sq_le h1 hb2
    have hc := h3 b (by omega) (by omega)
    have e1 : iI b + 1 = iI (b + 1) := by rw [i1, iI_add]
    have e2 : b + ((m + 1 : Nat) : Int) = b + 1 + (m : Int) := by omega
    rw [← Nat.add_assoc, f_X11_disk_34, if_neg (by show ¬ iI 1200 < iI b; rw [iI_lt ⟨by decide, by decide⟩ ⟨by omega, by omega⟩]; omega), e_4n3, s_rootOf_neg (by omega) (by omega), Option.bind_some, if_neg (by decide), e1, e2]
    exact ih (b + 1) (by omega) (by omega) (fun c p q => h3 c (by omega) (by omega)) k
theorem dk_end (N k : Nat) (n w al mo : Int32) : f_X11_disk_34 N (k + 1) n w al mo (iI 1201) = (if w = 0 then some al else some mo) := by
  rw [f_X11_disk_34, if_pos (by decide)]
theorem dk_loop {N : Nat} (hN : 1048576 ≤ N) {n far : Int} (hn : 0 ≤ n ∧ n ≤ 1000000) (hf : isq ((4 * n) / 3) far) (w : Int32) : ∀ (m : Nat) (b : Int), -far ≤ b → b + m = far + 1 → ∀ k k' : Nat, m < k → m + 1000 < k' → ∀ (s : Int) (al mo : Int32), 0 ≤ s → s ≤ 2000 → ∃ y : Int32 × Int32, f_X7_fillDisk_26 N k (iI n) (iI far) (iI s) (iI b) al mo = some y ∧ f_X11_disk_34 N (k' + 4000) (iI n) w al mo (iI b) = (if w = 0 then some y.1 else some y.2) := by
  have hf1 := hf.1
  have hf2 := hf.2.1
  have hf3 := hf.2.2
  have hfar : far ≤ 1155 := isq_le hf (by decide) (by omega)
  intro m
  induction m with
  | zero =>
    intro b h1 h2 k k' hk hk' s al mo p1 p2
    obtain rfl : b = far + 1 := by omega
    obtain ⟨k, rfl⟩ : ∃ k'', k = k'' + 1 := ⟨k - 1, by omega⟩
    rw [f_X7_fillDisk_26, if_pos (by rw [iI_lt ⟨by omega, by omega⟩ ⟨by omega, by omega⟩]; omega)]
    refine ⟨_, rfl, ?_⟩
    obtain ⟨d, hd⟩ : ∃ d : Nat, (d : Int) = 1201 - (far + 1) := ⟨(1201 - (far + 1)).toNat, by omega⟩
    have := dk_neg (N := N) hn w al mo d (far + 1) (by omega) (by omega) (fun x q1 q2 => by
      have := sq_mono (show 0 ≤ far + 1 by omega) q1
      omega) (k' + 4000 - d)
    have e : k' + 4000 - d + d = k' + 4000 := by omega
    rw [e] at this
    rw [this]
    have e2 : far + 1 + (d : Int) = 1201 := by omega
    rw [e2]
    obtain ⟨q, hq⟩ : ∃ q, k' + 4000 - d = q + 1 := ⟨k' + 4000 - d - 1, by omega⟩
    rw [hq, dk_end]
  | succ m ih =>
    intro b h1 h2 k k' hk hk' s al mo p1 p2
    obtain ⟨k, rfl⟩ : ∃ k'', k = k'' + 1 := ⟨k - 1, by omega⟩
    obtain ⟨k', rfl⟩ : ∃ k'', k' = k'' + 1 := ⟨k' - 1, by omega⟩
    have hb2 : b ≤ far := by omega
    have bsq := sq_le h1 hb2
    have bsq0 := sq_nn b
    have e1 : iI b + 1 = iI (b + 1) := by rw [i1, iI_add]
    obtain ⟨t, ht⟩ := isq_ex (v := 4 * n - 3 * (b * b)) (by omega)
    have t2 : t ≤ 2000 := isq_le ht (by decide) (by omega)
    have t1 := ht.1
    have eK : k' + 1 + 4000 = k' + 4000 + 1 := by omega
    have c1 : b32 (b + t) := ⟨by omega, by omega⟩
    have c2 : b32 (t - b) := ⟨by omega, by omega⟩
    have c3 : b32 (t + b) := ⟨by omega, by omega⟩
    have ct : b32 ((t + b).tmod 2) := by
      have := tm_bounds (a := t + b) (m := 2) (by decide)
      by_cases h : 0 ≤ t + b
      · constructor <;> omega
      · constructor <;> omega
    have r1 : f_X11_down (lI (b + t)) 2 = some (lI ((b + t) / 2)) := s_down (b64_of32 c1) (m := 2) (by decide) ⟨by decide, by decide⟩
    have r2 : f_X11_down (lI (t - b)) 2 = some (lI ((t - b) / 2)) := s_down (b64_of32 c2) (m := 2) (by decide) ⟨by decide, by decide⟩
    have e3 : iI ((b + t) / 2 + (t - b) / 2) + 1 = iI (if (t + b).tmod 2 = 0 then t + 1 else t) := by
      rw [i1, iI_add, row_its ⟨t1, t2⟩ ⟨by omega, by omega⟩]
    have e4 : (iI t + iI b - (iI t + iI b) / 2 * 2 = 0) = ((t + b).tmod 2 = 0) := by
      rw [iI_add, i2, iI_rem c3 ⟨by decide, by decide⟩]
      exact propext (iI_0 ct)
    have e5 : ∀ x y : Int32, f_J9_max_7cf53 x y = some (if y ≤ x then x else y) := by
      intro x y
      unfold f_J9_max_7cf53
      by_cases c : x < y
      · have : ¬ y ≤ x := by
          rw [Int32.lt_iff_toInt_lt] at c; rw [Int32.le_iff_toInt_le]; omega
        rw [if_pos c, if_neg this]
      · have : y ≤ x := by
          rw [Int32.lt_iff_toInt_lt] at c; rw [Int32.le_iff_toInt_le]; omega
        rw [if_neg c, if_pos this]
    have e6 : iI t + 1 = iI (t + 1) := by rw [i1, iI_add]
    have hA : (if iI t + iI b - (iI t + iI b) / 2 * 2 = 0 then f_X7_fillDisk_64 N (f_X7_fillDisk_26 N k) (iI n) (iI far) (iI t) (iI b) (iI t + 1) al mo else f_X7_fillDisk_64 N (f_X7_fillDisk_26 N k) (iI n) (iI far) (iI t) (iI b) (iI t) al mo) = f_X7_fillDisk_26 N k (iI n) (iI far) (iI t) (iI (b + 1)) (al + iI (if (t + b).tmod 2 = 0 then t + 1 else t)) (if iI (if (t + b).tmod 2 = 0 then t + 1 else t) ≤ mo then mo else iI (if (t + b).tmod 2 = 0 then t + 1 else t)) := by
      unfold f_X7_fillDisk_64
      simp only [e4, e5, Option.bind_some, e1, e6]
      by_cases c : (t + b).tmod 2 = 0
      · rw [if_pos c, if_pos c]
      · rw [if_neg c, if_neg c]
    rw [eK, f_X7_fillDisk_26, f_X11_disk_34, if_neg (by rw [iI_lt ⟨by omega, by omega⟩ ⟨by omega, by omega⟩]; omega), if_neg (show ¬ (1200 : Int32) < iI b by show ¬ iI 1200 < iI b; rw [iI_lt ⟨by decide, by decide⟩ ⟨by omega, by omega⟩]; omega), e_4n3, s_rootFrom hN ht (by omega) p1 (by omega), s_rootOf hN ht (by omega), Option.bind_some, Option.bind_some, hA, if_pos (show 0 ≤ iI t by rw [iI_0le ⟨by omega, by omega⟩]; exact t1), iI_add, iI_sub, iI_l c1, iI_l c2, r1, Option.bind_some, r2, Option.bind_some, lI_add, lI_i, e3, e1]
    obtain ⟨y, h1, h2⟩ := ih (b + 1) (by omega) (by omega) k k' (by omega) (by omega) t (al + iI (if (t + b).tmod 2 = 0 then t + 1 else t)) (if iI (if (t + b).tmod 2 = 0 then t + 1 else t) ≤ mo then mo else iI (if (t + b).tmod 2 = 0 then t + 1 else t)) t1 t2
    refine ⟨y, h1, ?_⟩
    rw [← h2]
    generalize iI (if (t + b).tmod 2 = 0 then t + 1 else t) = q
    by_cases c : q ≤ mo
    · rw [if_pos c, if_pos c]
    · rw [if_neg c, if_neg c]
theorem s_disk {N : Nat} (hN : 1048576 ≤ N) {n : Int} (hn : 0 ≤ n ∧ n ≤ 1000000) (w : Int32) : ∃ y : Int32 × Int32, f_X7_fillDisk N (iI n) = some y ∧ f_X11_disk_34 N N (iI n) w 0 0 (-1200) = (if w = 0 then some y.1 else some y.2) := by
  obtain ⟨far, hf⟩ := isq_ex (v := (4 * n) / 3) (by omega)
  have hf1 := hf.1
  have hf2 := hf.2.1
  have hf3 := hf.2.2
  have hfar : far ≤ 1155 := isq_le hf (by decide) (by omega)
  have e0 : (4 : Int32) * iI n / 3 = iI ((4 * n) / 3) := by rw [i4, i3, iI_mul, iI_div ⟨by omega, by omega⟩ ⟨by decide, by decide⟩, Int.tdiv_eq_ediv_of_nonneg (by omega)]
  have r0 : f_X9_rootFrom N (iI ((4 * n) / 3)) 0 = some (iI far) := s_rootFrom hN hf (by omega) (near := 0) (by omega) (by omega)
  unfold f_X7_fillDisk
  rw [e0, r0, Option.bind_some, iI_neg]
  obtain ⟨d, hd⟩ : ∃ d : Nat, (d : Int) = 1200 - far := ⟨(1200 - far).toNat, by omega⟩
  have e2 : (-1200 : Int) + (d : Int) = -far := by omega
  have L := dk_neg (N := N) hn w 0 0 d (-1200) (by omega) (by omega) (fun x q1 q2 => by
    have := sq_mono (show 0 ≤ far + 1 by omega) (show far + 1 ≤ -x by omega)
    have e : -x * -x = x * x := Int.neg_mul_neg x x
    omega) (N - d)
  have e3 : N - d + d = N := by omega
  rw [e3, e2] at L
  have L' : f_X11_disk_34 N N (iI n) w 0 0 (-1200) = _ := L
  rw [L']
  obtain ⟨y, h1, h2⟩ := dk_loop hN hn hf w (2 * far + 1).toNat (-far) (by omega) (by omega) N (N - d - 4000) (by omega) (by omega) 0 0 0 (by omega) (by omega)
  have e4 : N - d - 4000 + 4000 = N - d := by omega
  rw [e4] at h2
  exact ⟨y, h1, h2⟩
theorem q_disk (N : Nat) (hN : 1048576 ≤ N) (v1 v2 : Int32) (m_drawers_full m_drawers_kept : Int32) (m_drawers_partA m_drawers_partB m_drawers_keptA m_drawers_keptB m_drawers_keptFull : Nat → Int32) (m_tape_size : Int32) (m_tape_bytes : Nat → Int32) (m_primes_count : Int32) (m_primes_primeA m_primes_primeB : Nat → Int32) (m_rings_all m_rings_mostOfOneRow m_taped m_states m_listed : Int32) (m_tape m_has m_keptHas m_first m_second m_keptFirst m_keptSecond m_la0 m_lb0 : Nat → Int32) (hR : kR m_drawers_full m_drawers_kept m_drawers_partA m_drawers_partB m_drawers_keptA m_drawers_keptB m_drawers_keptFull m_tape_size m_tape_bytes m_primes_count m_primes_primeA m_primes_primeB m_taped m_tape m_has m_keptHas m_first m_second m_keptFirst m_keptSecond m_states m_la0 m_lb0 m_listed) : ∃ (y : Int32 × Int32 × Int32) (z : Int32), f_X10_disk N v1 v2 m_rings_all m_rings_mostOfOneRow = some y ∧ f_X11_disk N v1 v2 = some z ∧ y.1 = z ∧ kR m_drawers_full m_drawers_kept m_drawers_partA m_drawers_partB m_drawers_keptA m_drawers_keptB m_drawers_keptFull m_tape_size m_tape_bytes m_primes_count m_primes_primeA m_primes_primeB m_taped m_tape m_has m_keptHas m_first m_second m_keptFirst m_keptSecond m_states m_la0 m_lb0 m_listed := by
  have hR0 := hR
  obtain ⟨n, hn, rfl⟩ := iI_of v1
  obtain ⟨w, hw, rfl⟩ := iI_of v2
  have in1 : f_X11_in (iI n).toInt64 0 1000000 = some (if 0 ≤ n ∧ n ≤ 1000000 then 1 else 0) := s_in32 hn (l := 0) (h := 1000000) ⟨by decide, by decide⟩ ⟨by decide, by decide⟩
  have in2 : f_X11_in (iI w).toInt64 0 1 = some (if 0 ≤ w ∧ w ≤ 1 then 1 else 0) := s_in32 hw (l := 0) (h := 1) ⟨by decide, by decide⟩ ⟨by decide, by decide⟩
  have le2 : (iI w ≤ 1) = (w ≤ 1) := propext (iI_le (b := 1) hw ⟨by decide, by decide⟩)
  have q1 : (iI n < 0) = (n < 0) := propext (iI_lt0 hn)
  have q2 : (iI w < 0) = (w < 0) := propext (iI_lt0 hw)
  have q3 : ((1000000 : Int32) < iI n) = (1000000 < n) := propext (iI_lt (a := 1000000) ⟨by decide, by decide⟩ hn)
  unfold f_X10_disk f_X11_disk
  simp only [in1, in2, le2, q1, q2, q3, Option.bind_some]
  by_cases cn : 0 ≤ n ∧ n ≤ 1000000
  · rw [if_neg (show ¬ n < 0 by omega), if_neg (show ¬ 1000000 < n by omega), if_pos cn, if_neg (show ¬ (1 : Int32) = 0 by decide)]
    by_cases cw : 0 ≤ w ∧ w ≤ 1
    · rw [if_neg (show ¬ w < 0 by omega), if_pos cw.2, if_pos cw, if_neg (show ¬ (1 : Int32) = 0 by decide)]
      obtain ⟨y, h1, h2⟩ := s_disk hN cn (iI w)
      rw [h1, h2, Option.bind_some]
      by_cases c0 : iI w = 0
      · rw [if_pos c0, if_pos c0]; exact ⟨_, _, rfl, rfl, rfl, hR0⟩
      · rw [if_neg c0, if_neg c0]; exact ⟨_, _, rfl, rfl, rfl, hR0⟩
    · rw [if_neg cw, if_pos rfl]
      by_cases c2 : w < 0
      · rw [if_pos c2]; exact ⟨_, _, rfl, rfl, rfl, hR0⟩
      · rw [if_neg c2, if_neg (by omega)]; exact ⟨_, _, rfl, rfl, rfl, hR0⟩
  · rw [if_neg cn, if_pos rfl]
    by_cases c2 : n < 0
    · rw [if_pos c2]; exact ⟨_, _, rfl, rfl, rfl, hR0⟩
    · rw [if_neg c2, if_pos (by omega)]; exact ⟨_, _, rfl, rfl, rfl, hR0⟩
