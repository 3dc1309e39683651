/-! ===== write: both readers, part by part ===== -/
theorem by32 : ∀ t, t < 256 → (((nI t).toInt8.toInt32 = (32 : Int32) ↔ t = 32) ∧ (nI t = (32 : Int32) ↔ t = 32)) := by decide +kernel
theorem by43 : ∀ t, t < 256 → (((nI t).toInt8.toInt32 = (43 : Int32) ↔ t = 43) ∧ (nI t = (43 : Int32) ↔ t = 43)) := by decide +kernel
theorem by45 : ∀ t, t < 256 → (((nI t).toInt8.toInt32 = (45 : Int32) ↔ t = 45) ∧ (nI t = (45 : Int32) ↔ t = 45)) := by decide +kernel
theorem by119 : ∀ t, t < 256 → (((nI t).toInt8.toInt32 = (119 : Int32) ↔ t = 119) ∧ (nI t = (119 : Int32) ↔ t = 119)) := by decide +kernel
theorem bydig : ∀ t, t < 256 → (f_X11_isDigit (nI t).toInt8.toInt32 = some (if 48 ≤ t ∧ t ≤ 57 then 1 else 0) ∧ f_X8_isDigit (nI t) = some (if 48 ≤ t ∧ t ≤ 57 then 1 else 0)) := by decide +kernel
theorem bysame : ∀ t, t < 128 → (nI t).toInt8.toInt32 = nI t := by decide +kernel
section WRITE
variable {n : Nat} {tp : Nat → Nat} {bytes tape : Nat → Int32}
def skp (tp : Nat → Nat) (n k k' : Nat) : Prop := k ≤ k' ∧ k' ≤ n ∧ (k' = n ∨ tp k' ≠ 32) ∧ ∀ i, k ≤ i → i < k' → tp i = 32
theorem skp_ex (tp : Nat → Nat) (n : Nat) : ∀ (j k : Nat), k + j = n → ∃ k', skp tp n k k' := by
  intro j
  induction j with
  | zero => intro k hk; exact ⟨k, Nat.le_refl _, by omega, Or.inl (by omega), fun i h1 h2 => absurd h1 (by omega)⟩
  | succ j ih =>
    intro k hk
    by_cases c : tp k = 32
    · obtain ⟨k', h1, h2, h3, h4⟩ := ih (k + 1) (by omega)
      refine ⟨k', by omega, h2, h3, fun i p q => ?_⟩
      by_cases e : i = k
      · rw [e]; exact c
      · exact h4 i (by omega) q
    · exact ⟨k, Nat.le_refl _, by omega, Or.inr c, fun i h1 h2 => absurd h1 (by omega)⟩
/-- what lies at a place, -1 at the end -/
def hb (tp : Nat → Nat) (n k : Nat) : Int32 := if k < n then nI (tp k) else -1
def isT (n : Nat) (tp : Nat → Nat) (bytes tape : Nat → Int32) : Prop := n ≤ 40 ∧ ∀ i, i < n → tp i < 256 ∧ bytes i = nI (tp i) ∧ tape i = (nI (tp i)).toInt8.toInt32
theorem s_here (h : isT n tp bytes tape) {k : Nat} (hk : k ≤ n) : f_X8_here (nI n) (nI k) bytes = some (hb tp n k) := by
  obtain ⟨h0, h⟩ := h
  unfold f_X8_here hb
  rw [if_neg (nI_pos (by omega))]
  by_cases c : k < n
  · rw [if_neg (nI_ge c (by omega)), if_neg (nl80 (by omega)), if_neg (nI_in (N := 80) (by omega) (by decide)), nI_clamp (by omega), if_pos c, (h k c).2.1]
  · rw [if_pos (nI_le (by omega) (by omega)), if_neg c]
theorem hb32 (h : isT n tp bytes tape) {k : Nat} : hb tp n k = (32 : Int32) ↔ k < n ∧ tp k = 32 := by
  unfold hb
  by_cases c : k < n
  · rw [if_pos c, (by32 _ (h.2 k c).1).2]; exact ⟨fun z => ⟨c, z⟩, fun z => z.2⟩
  · rw [if_neg c]; exact ⟨fun z => absurd z (by decide), fun z => absurd z.1 c⟩
theorem hb43 (h : isT n tp bytes tape) {k : Nat} : hb tp n k = (43 : Int32) ↔ k < n ∧ tp k = 43 := by
  unfold hb
  by_cases c : k < n
  · rw [if_pos c, (by43 _ (h.2 k c).1).2]; exact ⟨fun z => ⟨c, z⟩, fun z => z.2⟩
  · rw [if_neg c]; exact ⟨fun z => absurd z (by decide), fun z => absurd z.1 c⟩
theorem hb45 (h : isT n tp bytes tape) {k : Nat} : hb tp n k = (45 : Int32) ↔ k < n ∧ tp k = 45 := by
  unfold hb
  by_cases c : k < n
  · rw [if_pos c, (by45 _ (h.2 k c).1).2]; exact ⟨fun z => ⟨c, z⟩, fun z => z.2⟩
  · rw [if_neg c]; exact ⟨fun z => absurd z (by decide), fun z => absurd z.1 c⟩
theorem hb119 (h : isT n tp bytes tape) {k : Nat} : hb tp n k = (119 : Int32) ↔ k < n ∧ tp k = 119 := by
  unfold hb
  by_cases c : k < n
  · rw [if_pos c, (by119 _ (h.2 k c).1).2]; exact ⟨fun z => ⟨c, z⟩, fun z => z.2⟩
  · rw [if_neg c]; exact ⟨fun z => absurd z (by decide), fun z => absurd z.1 c⟩
theorem hbdig (h : isT n tp bytes tape) {k : Nat} : f_X8_isDigit (hb tp n k) = some (if k < n ∧ 48 ≤ tp k ∧ tp k ≤ 57 then 1 else 0) := by
  unfold hb
  by_cases c : k < n
  · rw [if_pos c, (bydig _ (h.2 k c).1).2]
    by_cases d : 48 ≤ tp k ∧ tp k ≤ 57
    · rw [if_pos d, if_pos ⟨c, d⟩]
    · rw [if_neg d, if_neg (fun z => d z.2)]
  · rw [if_neg c, if_neg (fun z => c z.1)]; rfl
theorem t_ok (h : isT n tp bytes tape) {k : Nat} (hk : k < n) : (nI k < 0 ∨ 80 ≤ k) = False := eq_false (fun z => by
  have h40 := h.1
  rcases z with z | z
  · exact nI_pos (show k < 2 ^ 31 by omega) z
  · omega)
theorem t_end {k : Nat} (hn : n ≤ 40) (hk : k < n) : (nI n ≤ nI k) = False := eq_false (nI_ge hk (by omega))
theorem t_end' (hn : n ≤ 40) : (nI n ≤ nI n) = True := eq_true (nI_le (Nat.le_refl _) (by omega))
theorem sk_loop (N : Nat) (h : isT n tp bytes tape) {k' : Nat} : ∀ (j k : Nat), k + j = k' → skp tp n k k' → ∀ c f : Nat, c + j < 80 → j < f → f_X8_skipBlanks_2 N f (nI c) (nI n) (nI k) bytes = some (nI k') := by
  intro j
  induction j with
  | zero =>
    intro k hk hs c f hc hf
    obtain ⟨f, rfl⟩ : ∃ f', f = f' + 1 := ⟨f - 1, by omega⟩
    obtain rfl : k = k' := by omega
    rw [f_X8_skipBlanks_2, if_neg (nl80 (by omega)), s_here h hs.2.1, Option.bind_some, if_neg]
    rw [hb32 h]
    rcases hs.2.2.1 with z | z
    · omega
    · exact fun y => z y.2
  | succ j ih =>
    intro k hk hs c f hc hf
    obtain ⟨f, rfl⟩ : ∃ f', f = f' + 1 := ⟨f - 1, by omega⟩
    obtain ⟨h1, h2, h3, h4⟩ := hs
    rw [f_X8_skipBlanks_2, if_neg (nl80 (by omega)), s_here h (by omega), Option.bind_some, if_pos ((hb32 h).mpr ⟨by omega, h4 k (by omega) (by omega)⟩), nI_1, nI_1]
    exact ih (k + 1) (by omega) ⟨by omega, h2, h3, fun i p q => h4 i (by omega) q⟩ (c + 1) f (by omega) (by omega)
theorem s_skip {N : Nat} (hN : 1048576 ≤ N) (h : isT n tp bytes tape) {k k' : Nat} (hs : skp tp n k k') : f_X8_skipBlanks N (nI n) (nI k) bytes = some (nI k') := by
  have h1 := hs.1
  have h2 := hs.2.1
  have := h.1
  exact sk_loop N h (k' - k) k (by omega) hs 0 N (by omega) (by omega)
section REF
variable (N : Nat) (K : Int32 → Int32 → Int32 → Int32 → Int32 → Int32 → Int32 → Int32 → Int32 → (Nat → Int32) → (Nat → Int32) → (Nat → Int32) → (Nat → Int32) → Option (Int32 × Int32 × (Nat → Int32) × (Nat → Int32) × (Nat → Int32))) (v1 v4 v5 v6 v7 td : Int32) (hs fs sn : Nat → Int32)
theorem r56 (h : isT n tp bytes tape) {k' : Nat} : ∀ (j k : Nat), k + j = k' → skp tp n k k' → ∀ f : Nat, j < f → f_X11_write_56 N K f v1 (nI n) (nI k) v4 v5 v6 v7 td tape hs fs sn = f_X11_write_79 N K v1 (nI n) (nI k') v4 v5 v6 v7 td tape hs fs sn := by
  intro j
  induction j with
  | zero =>
    intro k hk s f hf
    obtain ⟨f, rfl⟩ : ∃ f', f = f' + 1 := ⟨f - 1, by omega⟩
    obtain rfl : k = k' := by omega
    obtain ⟨h1, h2, h3, h4⟩ := s
    rw [f_X11_write_56]
    by_cases c : k < n
    · have e : ¬ tape k = 32 := by
        rw [(h.2 k c).2.2, (by32 _ (h.2 k c).1).1]
        rcases h3 with z | z
        · omega
        · exact z
      simp only [t_end h.1 c, t_ok h c, if_false, nI_clamp (show k < 2 ^ 31 by have := h.1; omega), e]
    · obtain rfl : k = n := by omega
      simp only [t_end' h.1, if_true]
  | succ j ih =>
    intro k hk s f hf
    obtain ⟨f, rfl⟩ : ∃ f', f = f' + 1 := ⟨f - 1, by omega⟩
    obtain ⟨h1, h2, h3, h4⟩ := s
    have c : k < n := by omega
    have e : tape k = 32 := by rw [(h.2 k c).2.2, (by32 _ (h.2 k c).1).1]; exact h4 k (by omega) (by omega)
    rw [f_X11_write_56]
    simp only [t_end h.1 c, t_ok h c, if_false, nI_clamp (show k < 2 ^ 31 by have := h.1; omega), e, if_true, nI_1]
    exact ih (k + 1) (by omega) ⟨by omega, h2, h3, fun i p q => h4 i (by omega) q⟩ f (by omega)
theorem r185 (h : isT n tp bytes tape) (v9 v12 : Int32) {k' : Nat} : ∀ (j k : Nat), k + j = k' → skp tp n k k' → ∀ f : Nat, j < f → f_X11_write_185 N K f v1 (nI n) (nI k) v4 v5 v6 v7 v9 v12 td tape hs fs sn = f_X11_write_214 N K N v1 (nI n) (nI k') v4 v5 v6 v7 v9 v12 0 0 td tape hs fs sn := by
  intro j
  induction j with
  | zero =>
    intro k hk s f hf
    obtain ⟨f, rfl⟩ : ∃ f', f = f' + 1 := ⟨f - 1, by omega⟩
    obtain rfl : k = k' := by omega
    obtain ⟨h1, h2, h3, h4⟩ := s
    rw [f_X11_write_185]
    by_cases c : k < n
    · have e : ¬ tape k = 32 := by
        rw [(h.2 k c).2.2, (by32 _ (h.2 k c).1).1]
        rcases h3 with z | z
        · omega
        · exact z
      simp only [t_end h.1 c, t_ok h c, if_false, nI_clamp (show k < 2 ^ 31 by have := h.1; omega), e]
    · obtain rfl : k = n := by omega
      simp only [t_end' h.1, if_true]
  | succ j ih =>
    intro k hk s f hf
    obtain ⟨f, rfl⟩ : ∃ f', f = f' + 1 := ⟨f - 1, by omega⟩
    obtain ⟨h1, h2, h3, h4⟩ := s
    have c : k < n := by omega
    have e : tape k = 32 := by rw [(h.2 k c).2.2, (by32 _ (h.2 k c).1).1]; exact h4 k (by omega) (by omega)
    rw [f_X11_write_185]
    simp only [t_end h.1 c, t_ok h c, if_false, nI_clamp (show k < 2 ^ 31 by have := h.1; omega), e, if_true, nI_1]
    exact ih (k + 1) (by omega) ⟨by omega, h2, h3, fun i p q => h4 i (by omega) q⟩ f (by omega)
theorem r273 (h : isT n tp bytes tape) (v9 v12 v13 v14 : Int32) {k' : Nat} : ∀ (j k : Nat), k + j = k' → skp tp n k k' → ∀ f : Nat, j < f → f_X11_write_273 N K f v1 (nI n) (nI k) v4 v5 v6 v7 v9 v12 v13 v14 td tape hs fs sn = f_X11_write_296 N K v1 (nI n) (nI k') v4 v5 v6 v7 v9 v12 v13 v14 td tape hs fs sn := by
  intro j
  induction j with
  | zero =>
    intro k hk s f hf
    obtain ⟨f, rfl⟩ : ∃ f', f = f' + 1 := ⟨f - 1, by omega⟩
    obtain rfl : k = k' := by omega
    obtain ⟨h1, h2, h3, h4⟩ := s
    rw [f_X11_write_273]
    by_cases c : k < n
    · have e : ¬ tape k = 32 := by
        rw [(h.2 k c).2.2, (by32 _ (h.2 k c).1).1]
        rcases h3 with z | z
        · omega
        · exact z
      simp only [t_end h.1 c, t_ok h c, if_false, nI_clamp (show k < 2 ^ 31 by have := h.1; omega), e]
    · obtain rfl : k = n := by omega
      simp only [t_end' h.1, if_true]
  | succ j ih =>
    intro k hk s f hf
    obtain ⟨f, rfl⟩ : ∃ f', f = f' + 1 := ⟨f - 1, by omega⟩
    obtain ⟨h1, h2, h3, h4⟩ := s
    have c : k < n := by omega
    have e : tape k = 32 := by rw [(h.2 k c).2.2, (by32 _ (h.2 k c).1).1]; exact h4 k (by omega) (by omega)
    rw [f_X11_write_273]
    simp only [t_end h.1 c, t_ok h c, if_false, nI_clamp (show k < 2 ^ 31 by have := h.1; omega), e, if_true, nI_1]
    exact ih (k + 1) (by omega) ⟨by omega, h2, h3, fun i p q => h4 i (by omega) q⟩ f (by omega)
theorem r404 (h : isT n tp bytes tape) {k' : Nat} : ∀ (j k : Nat), k + j = k' → skp tp n k k' → ∀ f : Nat, j < f → f_X11_write_404 N K f v1 (nI n) (nI k) v4 v5 v6 v7 td tape hs fs sn = K v1 (nI n) (nI k') v4 v5 v6 v7 (if k' < n then 1 else 0) td tape hs fs sn := by
  intro j
  induction j with
  | zero =>
    intro k hk s f hf
    obtain ⟨f, rfl⟩ : ∃ f', f = f' + 1 := ⟨f - 1, by omega⟩
    obtain rfl : k = k' := by omega
    obtain ⟨h1, h2, h3, h4⟩ := s
    rw [f_X11_write_404]
    by_cases c : k < n
    · have e : ¬ tape k = 32 := by
        rw [(h.2 k c).2.2, (by32 _ (h.2 k c).1).1]
        rcases h3 with z | z
        · omega
        · exact z
      simp only [t_end h.1 c, t_ok h c, if_false, nI_clamp (show k < 2 ^ 31 by have := h.1; omega), e, c, if_true]
    · obtain rfl : k = n := by omega
      simp only [t_end' h.1, if_true, Nat.lt_irrefl, if_false]
  | succ j ih =>
    intro k hk s f hf
    obtain ⟨f, rfl⟩ : ∃ f', f = f' + 1 := ⟨f - 1, by omega⟩
    obtain ⟨h1, h2, h3, h4⟩ := s
    have c : k < n := by omega
    have e : tape k = 32 := by rw [(h.2 k c).2.2, (by32 _ (h.2 k c).1).1]; exact h4 k (by omega) (by omega)
    rw [f_X11_write_404]
    simp only [t_end h.1 c, t_ok h c, if_false, nI_clamp (show k < 2 ^ 31 by have := h.1; omega), e, if_true, nI_1]
    exact ih (k + 1) (by omega) ⟨by omega, h2, h3, fun i p q => h4 i (by omega) q⟩ f (by omega)
end REF
def bI (b : Bool) : Int32 := if b then 1 else 0
theorem flt1 (k : Nat) : f_X8_fault 1 (nI k) = some (iI (-1000 - k)) ∧ (-1000 : Int32) - nI k = iI (-1000 - k) := by
  have e : (-1000 : Int32) - nI k = iI (-1000 - k) := by rw [iI_nI, show (-1000 : Int32) = iI (-1000) from rfl, iI_sub]
  unfold f_X8_fault
  rw [show (-1000 : Int32) * 1 = -1000 from rfl, e]
  exact ⟨rfl, rfl⟩
theorem flt2 (k : Nat) : f_X8_fault 2 (nI k) = some (iI (-2000 - k)) ∧ (-2000 : Int32) - nI k = iI (-2000 - k) := by
  have e : (-2000 : Int32) - nI k = iI (-2000 - k) := by rw [iI_nI, show (-2000 : Int32) = iI (-2000) from rfl, iI_sub]
  unfold f_X8_fault
  rw [show (-1000 : Int32) * 2 = -2000 from rfl, e]
  exact ⟨rfl, rfl⟩
theorem flt3 (k : Nat) : f_X8_fault 3 (nI k) = some (iI (-3000 - k)) ∧ (-3000 : Int32) - nI k = iI (-3000 - k) := by
  have e : (-3000 : Int32) - nI k = iI (-3000 - k) := by rw [iI_nI, show (-3000 : Int32) = iI (-3000) from rfl, iI_sub]
  unfold f_X8_fault
  rw [show (-1000 : Int32) * 3 = -3000 from rfl, e]
  exact ⟨rfl, rfl⟩
theorem flt_ne {k : Nat} (hk : k ≤ 40) : iI (-1000 - k) ≠ 0 ∧ iI (-2000 - k) ≠ 0 ∧ iI (-3000 - k) ≠ 0 := by
  refine ⟨?_, ?_, ?_⟩ <;> · intro z; rw [iI_0 ⟨by omega, by omega⟩] at z; omega
section TAIL
variable (N : Nat) (K : Int32 → Int32 → Int32 → Int32 → Int32 → Int32 → Int32 → Int32 → Int32 → (Nat → Int32) → (Nat → Int32) → (Nat → Int32) → (Nat → Int32) → Option (Int32 × Int32 × (Nat → Int32) × (Nat → Int32) × (Nat → Int32))) (v1 td : Int32) (hs fs sn : Nat → Int32)
/-- how a part ends, on both sides: a fault, or one more sort told -/
def ends (n : Nat) (tp : Nat → Nat) (tape : Nat → Int32) (a b : Int) (P O : Bool) (x : Option (Int32 × Int32 × Int32 × Int32 × Int32 × Int32)) (y : Option (Int32 × Int32 × (Nat → Int32) × (Nat → Int32) × (Nat → Int32))) : Prop :=
  (∃ (F : Int32) (k' : Nat), F ≠ 0 ∧ x = some (F, iI a, iI b, nI k', bI P, bI O) ∧ y = some (F, td, hs, fs, sn)) ∨ (∃ (a' b' : Int) (P' O' : Bool) (k' : Nat), k' ≤ n ∧ (k' = n ∨ tp k' ≠ 32) ∧ kNum a' b' ∧ ((P = false ∧ P' = true ∧ O' = O) ∨ (O = false ∧ O' = true ∧ P' = P)) ∧ x = some (0, iI a', iI b', nI k', bI P', bI O') ∧ y = K v1 (nI n) (nI k') (iI a') (iI b') (bI P') (bI O') (if k' < n then 1 else 0) td tape hs fs sn)
theorem wr_say {a b : Int} (hab : kNum a b) (P O bl om : Bool) {st k d v : Nat} (hst : st ≤ 40) (hk : k ≤ n) (hk' : k = n ∨ tp k ≠ 32) (hd : d ≤ 4) (hv : v < 10 ^ d) (y : Option (Int32 × Int32 × (Nat → Int32) × (Nat → Int32) × (Nat → Int32))) (hy : y = if om then (if O then some (iI (-3000 - st), td, hs, fs, sn) else K v1 (nI n) (nI k) (iI a) (iI (if bl then -(if d = 0 then (1 : Int) else v) else (if d = 0 then (1 : Int) else v))) (bI P) 1 (if k < n then 1 else 0) td tape hs fs sn) else (if P then some (iI (-3000 - st), td, hs, fs, sn) else K v1 (nI n) (nI k) (iI (if bl then -(if d = 0 then (1 : Int) else v) else (if d = 0 then (1 : Int) else v))) (iI b) 1 (bI O) (if k < n then 1 else 0) td tape hs fs sn)) : ends K v1 td hs fs sn n tp tape a b P O (f_X8_readPart_191 N (nI st) (bI bl) (nI d) (nI v) (bI om) (iI a) (iI b) (nI k) (bI P) (bI O)) y := by
  have hv9 : v ≤ 9999 := by
    have : 10 ^ d ≤ 10 ^ 4 := Nat.pow_le_pow_right (by decide) hd
    omega
  have hx : kNum (if bl then -(if d = 0 then (1 : Int) else v) else (if d = 0 then (1 : Int) else v)) 0 := by
    cases bl <;> by_cases c : d = 0 <;> simp only [c, if_true, if_false, Bool.false_eq_true] <;> exact ⟨by omega, by omega, by omega, by omega⟩
  have s1 : (if nI d = 0 then f_X8_readPart_230 N (bI bl) (bI om) 1 (iI a) (iI b) (nI k) (bI P) (bI O) else f_X8_readPart_230 N (bI bl) (bI om) (nI v) (iI a) (iI b) (nI k) (bI P) (bI O)) = (f_X8_tell (bI om) (iI (if bl then -(if d = 0 then (1 : Int) else v) else (if d = 0 then (1 : Int) else v))) (iI a) (iI b) (bI P) (bI O)).bind fun y247 => some ((0 : Int32), y247.1, y247.2.1, nI k, y247.2.2.1, y247.2.2.2) := by
    unfold f_X8_readPart_230
    have nd : (nI d = 0) = (d = 0) := propext ⟨fun z => by rw [iI_nI, iI_0 ⟨by omega, by omega⟩] at z; omega, fun z => by rw [z]; rfl⟩
    have e1 : (1 : Int32) = iI 1 := rfl
    simp only [nd]
    by_cases c : d = 0
    · cases bl
      · simp only [c, if_true, bI, Bool.false_eq_true, if_false]; rfl
      · simp only [c, if_true, bI, j1, if_false]; rfl
    · cases bl
      · simp only [c, if_true, bI, Bool.false_eq_true, if_false, iI_nI]
      · simp only [c, if_true, bI, j1, if_false, iI_nI, iI_neg]
  rw [hy]
  unfold f_X8_readPart_191
  simp only [s1, (flt3 st).1, Option.bind_some]
  cases om
  · cases P
    · right
      refine ⟨_, b, true, O, k, hk, hk', ⟨hx.1, hx.2.1, hab.2.2.1, hab.2.2.2⟩, Or.inl ⟨rfl, rfl, rfl⟩, ?_, ?_⟩
      · simp only [bI, Bool.false_eq_true, if_false, if_true, f_X8_tell, Option.bind_some]
      · simp only [bI, Bool.false_eq_true, if_false, if_true]
    · left
      exact ⟨iI (-3000 - st), k, (flt_ne hst).2.2, by simp only [bI, Bool.false_eq_true, if_false, if_true, j1], by simp only [bI, Bool.false_eq_true, if_false, if_true]⟩
  · cases O
    · right
      refine ⟨a, _, P, true, k, hk, hk', ⟨hab.1, hab.2.1, hx.1, hx.2.1⟩, Or.inr ⟨rfl, rfl, rfl⟩, ?_, ?_⟩
      · simp only [bI, Bool.false_eq_true, if_false, if_true, f_X8_tell, Option.bind_some, j1]
      · simp only [bI, Bool.false_eq_true, if_false, if_true]
    · left
      exact ⟨iI (-3000 - st), k, (flt_ne hst).2.2, by simp only [bI, Bool.false_eq_true, if_false, if_true, j1], by simp only [bI, Bool.false_eq_true, if_false, if_true]⟩
/-- the reference, behind its digits and blanks -/
theorem r360 (bl : Bool) {d v : Nat} (hd : d ≤ 4) (k3 v4 v5 v6 v7 v15 : Int32) : f_X11_write_360 N K v1 (nI n) k3 v4 v5 v6 v7 (bI bl) (nI v) (nI d) v15 td tape hs fs sn = f_X11_write_386 N K v1 (nI n) k3 v4 v5 v6 v7 v15 (iI (if bl then -(if d = 0 then (1 : Int) else v) else (if d = 0 then (1 : Int) else v))) td tape hs fs sn := by
  have nd : (nI d = 0) = (d = 0) := propext ⟨fun z => by rw [iI_nI, iI_0 ⟨by omega, by omega⟩] at z; omega, fun z => by rw [z]; rfl⟩
  have e1 : (1 : Int32) = iI 1 := rfl
  unfold f_X11_write_360
  simp only [nd]
  by_cases c : d = 0
  · cases bl
    · simp only [c, if_true, bI, Bool.false_eq_true, if_false]; rfl
    · simp only [c, if_true, bI, j1, if_false]; rfl
  · cases bl
    · simp only [c, if_true, bI, Bool.false_eq_true, if_false, iI_nI]
    · simp only [c, if_true, bI, j1, if_false, iI_nI, iI_neg]
theorem wr_tail (hN : 1048576 ≤ N) (h : isT n tp bytes tape) {a b : Int} (hab : kNum a b) (P O bl : Bool) {st k d v : Nat} (hst : st ≤ n) (hk : k ≤ n) (nd : ¬ (k < n ∧ 48 ≤ tp k ∧ tp k ≤ 57)) (hd : d ≤ 4) (hv : v < 10 ^ d) : ends K v1 td hs fs sn n tp tape a b P O (f_X8_readPart_116 N (nI st) (bI bl) (nI d) (nI v) (iI a) (iI b) (nI n) (nI k) (bI P) (bI O) bytes) (f_X11_write_273 N K N v1 (nI n) (nI k) (iI a) (iI b) (bI P) (bI O) (nI st) (bI bl) (nI v) (nI d) td tape hs fs sn) := by
  have h40 := h.1
  obtain ⟨k2, s2⟩ := skp_ex tp n (n - k) k (by omega)
  have s2' := s2
  obtain ⟨p1, p2, p3, p4⟩ := s2'
  rw [r273 N K v1 _ _ _ _ td hs fs sn h _ _ _ _ (k2 - k) k (by omega) s2 N (by omega)]
  unfold f_X8_readPart_116
  rw [s_here h hk, Option.bind_some, hbdig h, Option.bind_some, if_neg nd, if_pos rfl, s_skip hN h s2, Option.bind_some, s_here h p2, Option.bind_some]
  have nz : (nI d = 0) = (d = 0) := propext ⟨fun z => by rw [iI_nI, iI_0 ⟨by omega, by omega⟩] at z; omega, fun z => by rw [z]; rfl⟩
  unfold f_X11_write_296
  by_cases cw : k2 < n ∧ tp k2 = 119
  · obtain ⟨k3, s3⟩ := skp_ex tp n (n - (k2 + 1)) (k2 + 1) (by omega)
    have s3' := s3
    obtain ⟨u1, u2, u3, u4⟩ := s3'
    have e : tape k2 = 119 := by rw [(h.2 k2 cw.1).2.2, (by119 _ (h.2 k2 cw.1).1).1]; exact cw.2
    rw [if_pos ((hb119 h).mpr cw)]
    unfold f_X8_readPart_153
    simp only [j1, if_false, nI_1, s_skip hN h s3, Option.bind_some, t_end h40 cw.1, t_ok h cw.1, nI_clamp (show k2 < 2 ^ 31 by omega), e, if_true]
    refine wr_say N K v1 td hs fs sn hab P O bl true (by omega) u2 u3 hd hv _ ?_
    unfold f_X11_write_335
    simp only [j1, if_false, r360 N K v1 td hs fs sn bl hd, (flt3 st).2, if_true]
    unfold f_X11_write_386
    simp only [j1, if_false, nI_1]
    rw [r404 N K v1 _ _ _ _ td hs fs sn h (k3 - (k2 + 1)) (k2 + 1) (by omega) s3 N (by omega)]
    cases O
    · simp only [bI, Bool.false_eq_true, if_false, if_true]
    · simp only [bI, if_true, j1, if_false]
  · rw [if_neg (fun z => cw ((hb119 h).mp z))]
    have rr : (if nI n ≤ nI k2 then if (0 : Int32) = 0 then if nI d = 0 then some (((-1000 : Int32) - nI k2), td, hs, fs, sn) else f_X11_write_335 N K v1 (nI n) (nI k2) (iI a) (iI b) (bI P) (bI O) (nI st) (bI bl) (nI v) (nI d) (0 : Int32) td tape hs fs sn else f_X11_write_335 N K v1 (nI n) (nI k2) (iI a) (iI b) (bI P) (bI O) (nI st) (bI bl) (nI v) (nI d) (0 : Int32) td tape hs fs sn else if nI k2 < 0 ∨ 80 ≤ (nI k2).toNatClampNeg then none else if (tape (nI k2).toNatClampNeg) = (119 : Int32) then if (1 : Int32) = 0 then if nI d = 0 then some (((-1000 : Int32) - nI k2), td, hs, fs, sn) else f_X11_write_335 N K v1 (nI n) (nI k2) (iI a) (iI b) (bI P) (bI O) (nI st) (bI bl) (nI v) (nI d) (1 : Int32) td tape hs fs sn else f_X11_write_335 N K v1 (nI n) (nI k2) (iI a) (iI b) (bI P) (bI O) (nI st) (bI bl) (nI v) (nI d) (1 : Int32) td tape hs fs sn else if (0 : Int32) = 0 then if nI d = 0 then some (((-1000 : Int32) - nI k2), td, hs, fs, sn) else f_X11_write_335 N K v1 (nI n) (nI k2) (iI a) (iI b) (bI P) (bI O) (nI st) (bI bl) (nI v) (nI d) (0 : Int32) td tape hs fs sn else f_X11_write_335 N K v1 (nI n) (nI k2) (iI a) (iI b) (bI P) (bI O) (nI st) (bI bl) (nI v) (nI d) (0 : Int32) td tape hs fs sn) = (if d = 0 then some (iI (-1000 - k2), td, hs, fs, sn) else f_X11_write_335 N K v1 (nI n) (nI k2) (iI a) (iI b) (bI P) (bI O) (nI st) (bI bl) (nI v) (nI d) (0 : Int32) td tape hs fs sn) := by
      by_cases c : k2 < n
      · have e : ¬ tape k2 = 119 := by
          rw [(h.2 k2 c).2.2, (by119 _ (h.2 k2 c).1).1]
          exact fun z => cw ⟨c, z⟩
        simp only [t_end h40 c, t_ok h c, if_false, nI_clamp (show k2 < 2 ^ 31 by omega), e, if_true, nz, (flt1 k2).2]
      · obtain rfl : k2 = n := by omega
        simp only [t_end' h40, if_true, nz, (flt1 k2).2]
    rw [rr]
    unfold f_X8_readPart_153
    simp only [if_true, nz, (flt1 k2).1, Option.bind_some]
    by_cases c0 : d = 0
    · left
      rw [if_pos c0, if_pos c0]
      exact ⟨_, k2, (flt_ne (show k2 ≤ 40 by omega)).1, rfl, rfl⟩
    · rw [if_neg c0, if_neg c0]
      refine wr_say N K v1 td hs fs sn hab P O bl false (by omega) p2 p3 hd hv _ ?_
      unfold f_X11_write_335
      simp only [if_true, r360 N K v1 td hs fs sn bl hd, (flt3 st).2]
      unfold f_X11_write_386
      simp only [if_true, Bool.false_eq_true, if_false]
      have mo : ∀ {α : Type} (X Y : α), (if nI n ≤ nI k2 then X else Y) = if k2 < n then Y else X := by
        intro α X Y
        by_cases c : k2 < n
        · simp only [t_end h40 c, if_false, c, if_true]
        · obtain rfl : k2 = n := by omega
          simp only [t_end' h40, if_true, Nat.lt_irrefl, if_false]
      rw [mo]
      cases P
      · simp only [bI, Bool.false_eq_true, if_false, if_true]
        by_cases c : k2 < n
        · simp only [c, if_true]
        · simp only [c, if_false]
      · simp only [bI, if_true, j1, if_false]
/-- digits, on both sides -/
theorem wr_digs (hN : 1048576 ≤ N) (h : isT n tp bytes tape) {a b : Int} (hab : kNum a b) (P O bl : Bool) {st : Nat} (hst : st ≤ n) : ∀ (j k : Nat), k + j = n → ∀ (d v f f' : Nat), d ≤ 4 → v < 10 ^ d → 4 < d + f → j < f' → ends K v1 td hs fs sn n tp tape a b P O (f_X8_readPart_69 N f (nI st) (bI bl) (nI d) (nI v) (iI a) (iI b) (nI n) (nI k) (bI P) (bI O) bytes) (f_X11_write_214 N K f' v1 (nI n) (nI k) (iI a) (iI b) (bI P) (bI O) (nI st) (bI bl) (nI v) (nI d) td tape hs fs sn) := by
  have h40 := h.1
  have stop : ∀ (k d v f f' : Nat), k ≤ n → d ≤ 4 → v < 10 ^ d → ¬ (k < n ∧ 48 ≤ tp k ∧ tp k ≤ 57) → ends K v1 td hs fs sn n tp tape a b P O (f_X8_readPart_69 N (f + 1) (nI st) (bI bl) (nI d) (nI v) (iI a) (iI b) (nI n) (nI k) (bI P) (bI O) bytes) (f_X11_write_214 N K (f' + 1) v1 (nI n) (nI k) (iI a) (iI b) (bI P) (bI O) (nI st) (bI bl) (nI v) (nI d) td tape hs fs sn) := by
    intro k d v f f' hk hd hv nd
    have e1 : f_X8_readPart_69 N (f + 1) (nI st) (bI bl) (nI d) (nI v) (iI a) (iI b) (nI n) (nI k) (bI P) (bI O) bytes = f_X8_readPart_116 N (nI st) (bI bl) (nI d) (nI v) (iI a) (iI b) (nI n) (nI k) (bI P) (bI O) bytes := by
      rw [f_X8_readPart_69, s_here h hk, Option.bind_some, hbdig h, Option.bind_some, if_neg nd, if_pos rfl]
      split <;> rfl
    have e2 : f_X11_write_214 N K (f' + 1) v1 (nI n) (nI k) (iI a) (iI b) (bI P) (bI O) (nI st) (bI bl) (nI v) (nI d) td tape hs fs sn = f_X11_write_273 N K N v1 (nI n) (nI k) (iI a) (iI b) (bI P) (bI O) (nI st) (bI bl) (nI v) (nI d) td tape hs fs sn := by
      rw [f_X11_write_214]
      by_cases c : k < n
      · simp only [t_end h40 c, t_ok h c, if_false, nI_clamp (show k < 2 ^ 31 by omega), (h.2 k c).2.2, (bydig _ (h.2 k c).1).1, if_neg (fun z => nd ⟨c, z⟩), Option.bind_some, if_true]
      · obtain rfl : k = n := by omega
        simp only [t_end' h40, if_true]
    rw [e1, e2]
    exact wr_tail N K v1 td hs fs sn hN h hab P O bl hst hk nd hd hv
  intro j
  induction j with
  | zero =>
    intro k hk d v f f' hd hv hf hf'
    obtain ⟨f', rfl⟩ : ∃ f'', f' = f'' + 1 := ⟨f' - 1, by omega⟩
    obtain ⟨f, rfl⟩ : ∃ f'', f = f'' + 1 := ⟨f - 1, by omega⟩
    exact stop k d v f f' (by omega) hd hv (fun z => absurd z.1 (by omega))
  | succ j ih =>
    intro k hk d v f f' hd hv hf hf'
    obtain ⟨f', rfl⟩ : ∃ f'', f' = f'' + 1 := ⟨f' - 1, by omega⟩
    obtain ⟨f, rfl⟩ : ∃ f'', f = f'' + 1 := ⟨f - 1, by omega⟩
    have c : k < n := by omega
    by_cases cd : 48 ≤ tp k ∧ tp k ≤ 57
    · have hT := h.2 k c
      have sm := bysame (tp k) (by omega)
      have e0 : hb tp n k = nI (tp k) := by unfold hb; rw [if_pos c]
      have hd1 : f_X8_isDigit (hb tp n k) = some 1 := by rw [hbdig h, if_pos (show k < n ∧ 48 ≤ tp k ∧ tp k ≤ 57 from ⟨c, cd⟩)]
      by_cases c4 : d = 4
      · subst c4
        left
        refine ⟨iI (-2000 - k), k, (flt_ne (show k ≤ 40 by omega)).2.1, ?_, ?_⟩
        · rw [f_X8_readPart_69, if_pos (by decide)]
          unfold f_X8_readPart_116
          rw [s_here h (by omega), Option.bind_some, hd1, Option.bind_some, if_neg j1, (flt2 k).1, Option.bind_some]
        · rw [f_X11_write_214]
          simp only [t_end h40 c, t_ok h c, if_false, nI_clamp (show k < 2 ^ 31 by omega), hT.2.2, (bydig _ hT.1).1, if_pos cd, Option.bind_some, j1, (flt2 k).2]
          rw [if_pos (by decide)]
      · have ev : (10 : Int32) * nI v + nI (tp k) - 48 = nI (10 * v + (tp k - 48)) := by
          rw [iI_nI, iI_nI, iI_nI, show (10 : Int32) = iI 10 from rfl, show (48 : Int32) = iI 48 from rfl, iI_mul, iI_add, iI_sub]
          congr 1
          omega
        have hv' : 10 * v + (tp k - 48) < 10 ^ (d + 1) := by
          rw [Nat.pow_succ]; omega
        rw [f_X8_readPart_69, if_neg (nl4 (by omega)), s_here h (by omega), Option.bind_some, hd1, Option.bind_some, if_neg j1, Option.bind_some, e0, ev, nI_1, nI_1, f_X11_write_214]
        have dg : f_X11_isDigit (nI (tp k)) = some 1 := by
          have := (bydig _ hT.1).1
          rw [sm, if_pos cd] at this
          exact this
        have n4 : ¬ nI d = 4 := by
          intro z
          have : d = 4 := (nI_eq (show d < 2 ^ 31 by omega) (show 4 < 2 ^ 31 by decide)).mp z
          exact c4 this
        simp only [t_end h40 c, t_ok h c, if_false, nI_clamp (show k < 2 ^ 31 by omega), hT.2.2, dg, Option.bind_some, j1, n4, sm, ev, nI_1]
        exact ih (k + 1) (by omega) (d + 1) _ f f' (by omega) hv' (by omega) (by omega)
    · exact stop k d v f f' (by omega) hd hv (fun z => cd z.2)
/-- a part, on both sides -/
theorem wr_part (hN : 1048576 ≤ N) (h : isT n tp bytes tape) {a b : Int} (hab : kNum a b) (P O : Bool) {k : Nat} (hk : k ≤ n) (hk' : k = n ∨ tp k ≠ 32) : ends K v1 td hs fs sn n tp tape a b P O (f_X8_readPart N (bI (!P && !O)) (iI a) (iI b) (nI n) (nI k) (bI P) (bI O) bytes) (f_X11_write_79 N K v1 (nI n) (nI k) (iI a) (iI b) (bI P) (bI O) td tape hs fs sn) := by
  have h40 := h.1
  have e79 : f_X11_write_79 N K v1 (nI n) (nI k) (iI a) (iI b) (bI P) (bI O) td tape hs fs sn = f_X11_write_97 N K v1 (nI n) (nI k) (iI a) (iI b) (bI P) (bI O) (nI k) (bI (!P && !O)) td tape hs fs sn := by
    unfold f_X11_write_79
    cases P <;> cases O <;> simp only [bI, Bool.not_true, Bool.not_false, Bool.and_self, Bool.and_true, Bool.and_false, Bool.false_and, Bool.true_and, Bool.false_eq_true, if_true, if_false, j1]
  rw [e79]
  unfold f_X8_readPart f_X11_write_97
  rw [s_here h hk, Option.bind_some]
  -- with a sign
  have sg : ∀ bl : Bool, k < n → ends K v1 td hs fs sn n tp tape a b P O (f_X8_readPart_33 N (nI k) (bI bl) (iI a) (iI b) (nI n) (nI k) (bI P) (bI O) bytes) (f_X11_write_185 N K N v1 (nI n) (nI (k + 1)) (iI a) (iI b) (bI P) (bI O) (nI k) (bI bl) td tape hs fs sn) := by
    intro bl c
    obtain ⟨k2, s2⟩ := skp_ex tp n (n - (k + 1)) (k + 1) (by omega)
    have q1 := s2.1
    have q2 := s2.2.1
    unfold f_X8_readPart_33
    rw [nI_1, s_skip hN h s2, Option.bind_some, r185 N K v1 _ _ _ _ td hs fs sn h _ _ (k2 - (k + 1)) (k + 1) (by omega) s2 N (by omega)]
    exact wr_digs N K v1 td hs fs sn hN h hab P O bl hk (n - k2) k2 (by omega) 0 0 N N (by omega) (by decide) (by omega) (by omega)
  by_cases c45 : k < n ∧ tp k = 45
  · have hT := h.2 k c45.1
    have t45 : tape k = 45 := by rw [hT.2.2, (by45 _ hT.1).1]; exact c45.2
    rw [if_pos ((hb45 h).mpr c45)]
    unfold f_X8_readPart_19 f_X11_write_126 f_X11_write_149
    simp only [j1, if_false, t_end h40 c45.1, t_ok h c45.1, nI_clamp (show k < 2 ^ 31 by omega), t45, (show ¬ (45 : Int32) = 43 by decide), if_true, nI_1]
    exact sg true c45.1
  · rw [if_neg (fun z => c45 ((hb45 h).mp z))]
    unfold f_X8_readPart_19
    rw [if_pos rfl, s_here h hk, Option.bind_some]
    by_cases c43 : k < n ∧ tp k = 43
    · have hT := h.2 k c43.1
      have t43 : tape k = 43 := by rw [hT.2.2, (by43 _ hT.1).1]; exact c43.2
      have t45 : ¬ (43 : Int32) = 45 := by decide
      rw [if_pos ((hb43 h).mpr c43)]
      unfold f_X11_write_126 f_X11_write_149 f_X11_write_169
      simp only [j1, if_false, t_end h40 c43.1, t_ok h c43.1, nI_clamp (show k < 2 ^ 31 by omega), t43, t45, if_true, nI_1]
      exact sg false c43.1
    · rw [if_neg (fun z => c43 ((hb43 h).mp z))]
      -- no sign
      have rr : ∀ X Y : Option (Int32 × Int32 × (Nat → Int32) × (Nat → Int32) × (Nat → Int32)), (if nI n ≤ nI k then if (0 : Int32) = 0 then X else Y else if nI k < 0 ∨ 80 ≤ (nI k).toNatClampNeg then none else if (tape (nI k).toNatClampNeg) = (43 : Int32) then f_X11_write_126 N K v1 (nI n) (nI k) (iI a) (iI b) (bI P) (bI O) (nI k) (bI (!P && !O)) td tape hs fs sn else if nI k < 0 ∨ 80 ≤ (nI k).toNatClampNeg then none else if (tape (nI k).toNatClampNeg) = (45 : Int32) then f_X11_write_126 N K v1 (nI n) (nI k) (iI a) (iI b) (bI P) (bI O) (nI k) (bI (!P && !O)) td tape hs fs sn else if (0 : Int32) = 0 then X else Y) = X := by
        intro X Y
        by_cases c : k < n
        · have hT := h.2 k c
          have t45 : ¬ tape k = 45 := by rw [hT.2.2, (by45 _ hT.1).1]; exact fun z => c45 ⟨c, z⟩
          have t43 : ¬ tape k = 43 := by rw [hT.2.2, (by43 _ hT.1).1]; exact fun z => c43 ⟨c, z⟩
          simp only [t_end h40 c, t_ok h c, if_false, nI_clamp (show k < 2 ^ 31 by omega), t45, t43, if_true]
        · obtain rfl : k = n := by omega
          simp only [t_end' h40, if_true]
      rw [rr]
      by_cases c1 : (!P && !O) = true
      · rw [c1]
        unfold f_X11_write_149 f_X11_write_169
        simp only [bI, if_true, j1, if_false]
        have e := r185 N K v1 (iI a) (iI b) (bI P) (bI O) td hs fs sn h (nI k) 0 (k' := k) 0 k rfl ⟨Nat.le_refl _, hk, hk', fun i p q => absurd p (by omega)⟩ N (by omega)
        have := wr_digs N K v1 td hs fs sn hN h hab P O false hk (n - k) k (by omega) 0 0 N N (by omega) (by decide) (by omega) (by omega)
        simp only [bI] at this e
        rw [e]
        exact this
      · have c1' : (!P && !O) = false := by cases hh : (!P && !O) <;> simp_all
        rw [c1']
        simp only [bI, Bool.false_eq_true, if_false, if_true, (flt1 k).1, (flt1 k).2, Option.bind_some]
        left
        exact ⟨_, k, (flt_ne (show k ≤ 40 by omega)).1, rfl, rfl⟩
end TAIL
/-- how the whole text ends, on both sides -/
def wfin (v1 td : Int32) (hs fs sn : Nat → Int32) (x : Option (Int32 × Int32 × Int32 × Int32 × Int32 × Int32 × Int32)) (y : Option (Int32 × Int32 × (Nat → Int32) × (Nat → Int32) × (Nat → Int32))) : Prop :=
  (∃ (F : Int32) (u : Int32 × Int32 × Int32 × Int32 × Int32 × Int32), F ≠ 0 ∧ x = some (F, u) ∧ y = some (F, td, hs, fs, sn)) ∨ (∃ (a' b' : Int) (u : Int32 × Int32 × Int32 × Int32), kNum a' b' ∧ x = some (0, iI a', iI b', u) ∧ y = (f_X11_puts v1 (iI a').toInt64 (iI b').toInt64 hs fs sn).bind fun y457 => some ((0 : Int32), td, y457.1, y457.2.1, y457.2.2))
theorem wr_step {N : Nat} (hN : 1048576 ≤ N) (h : isT n tp bytes tape) (v1 td : Int32) (hs fs sn : Nat → Int32) {a b : Int} {P O : Bool} (hab : kNum a b) (hPO : (!P && !O) = false) {k c f f' : Nat} (hk : k ≤ n) (hk' : k = n ∨ tp k ≠ 32) (hc : c < 79) (hf : 0 < f) (nx : ∀ (a' b' : Int) (P' O' : Bool) (k' : Nat), kNum a' b' → k' ≤ n → (k' = n ∨ tp k' ≠ 32) → ((P = false ∧ P' = true ∧ O' = O) ∨ (O = false ∧ O' = true ∧ P' = P)) → wfin v1 td hs fs sn (f_X8_readText_42 N f 0 (nI (c + 1)) (iI a') (iI b') (nI n) (nI k') (bI P') (bI O') bytes) (f_X11_write_51 N f' v1 (nI n) (nI k') (iI a') (iI b') (bI P') (bI O') (if k' < n then 1 else 0) td tape hs fs sn)) : wfin v1 td hs fs sn (f_X8_readText_42 N (f + 1) 0 (nI c) (iI a) (iI b) (nI n) (nI k) (bI P) (bI O) bytes) (f_X11_write_51 N (f' + 1) v1 (nI n) (nI k) (iI a) (iI b) (bI P) (bI O) (if k < n then 1 else 0) td tape hs fs sn) := by
  have h40 := h.1
  rw [f_X8_readText_42, f_X11_write_51, if_neg (nl80 (by omega)), if_pos rfl]
  by_cases cn : k < n
  · simp only [t_end h40 cn, if_false, cn, if_true, j1]
    have w := wr_part N (f_X11_write_51 N f') v1 td hs fs sn hN h hab P O hk hk'
    rw [hPO] at w
    have e := r56 N (f_X11_write_51 N f') v1 (iI a) (iI b) (bI P) (bI O) td hs fs sn h (k' := k) 0 k rfl ⟨Nat.le_refl _, hk, hk', fun i p q => absurd p (by omega)⟩ N (by omega)
    rw [e]
    rcases w with ⟨F, k', hF, w1, w2⟩ | ⟨a', b', P', O', k', u1, u2, u3, u4, w1, w2⟩
    · have w1' : f_X8_readPart N 0 (iI a) (iI b) (nI n) (nI k) (bI P) (bI O) bytes = some (F, iI a, iI b, nI k', bI P, bI O) := w1
      rw [w1', w2, Option.bind_some]
      obtain ⟨f, rfl⟩ : ∃ f0, f = f0 + 1 := ⟨f - 1, by omega⟩
      have q : f_X8_readText_42 N (f + 1) F (nI c + 1) (iI a) (iI b) (nI n) (nI k') (bI P) (bI O) bytes = some (F, iI a, iI b, nI n, nI k', bI P, bI O) := by
        rw [nI_1, f_X8_readText_42, if_neg (nl80 (by omega)), if_neg hF]
      left
      exact ⟨F, _, hF, q, rfl⟩
    · have w1' : f_X8_readPart N 0 (iI a) (iI b) (nI n) (nI k) (bI P) (bI O) bytes = some (0, iI a', iI b', nI k', bI P', bI O') := w1
      rw [w1', w2, Option.bind_some, nI_1]
      exact nx a' b' P' O' k' u3 u1 u2 u4
  · obtain rfl : k = n := by omega
    simp only [t_end' h40, if_true, Nat.lt_irrefl, if_false]
    right
    exact ⟨a, b, _, hab, rfl, rfl⟩
theorem wr_more {N : Nat} (hN : 1048576 ≤ N) (h : isT n tp bytes tape) (v1 td : Int32) (hs fs sn : Nat → Int32) : ∀ (j : Nat) (a b : Int) (P O : Bool), kNum a b → (!P && !O) = false → (if P then 0 else 1) + (if O then 0 else 1) ≤ j → ∀ (k c f f' : Nat), k ≤ n → (k = n ∨ tp k ≠ 32) → c + j < 79 → j + 1 < f → j < f' → wfin v1 td hs fs sn (f_X8_readText_42 N f 0 (nI c) (iI a) (iI b) (nI n) (nI k) (bI P) (bI O) bytes) (f_X11_write_51 N f' v1 (nI n) (nI k) (iI a) (iI b) (bI P) (bI O) (if k < n then 1 else 0) td tape hs fs sn) := by
  intro j
  induction j with
  | zero =>
    intro a b P O hab hPO hj k c f f' hk hk' hc hf hf'
    obtain ⟨f, rfl⟩ : ∃ f0, f = f0 + 1 := ⟨f - 1, by omega⟩
    obtain ⟨f', rfl⟩ : ∃ f0, f' = f0 + 1 := ⟨f' - 1, by omega⟩
    refine wr_step hN h v1 td hs fs sn hab hPO hk hk' (by omega) (by omega) (fun a' b' P' O' k' u1 u2 u3 u4 => ?_)
    rcases u4 with ⟨z, -, -⟩ | ⟨z, -, -⟩
    · subst z; simp at hj
    · subst z; simp at hj
  | succ j ih =>
    intro a b P O hab hPO hj k c f f' hk hk' hc hf hf'
    obtain ⟨f, rfl⟩ : ∃ f0, f = f0 + 1 := ⟨f - 1, by omega⟩
    obtain ⟨f', rfl⟩ : ∃ f0, f' = f0 + 1 := ⟨f' - 1, by omega⟩
    refine wr_step hN h v1 td hs fs sn hab hPO hk hk' (by omega) (by omega) (fun a' b' P' O' k' u1 u2 u3 u4 => ?_)
    refine ih a' b' P' O' u1 ?_ ?_ k' (c + 1) f f' u2 u3 (by omega) (by omega) (by omega)
    · rcases u4 with ⟨-, z, -⟩ | ⟨-, z, -⟩ <;> · subst z; simp
    · rcases u4 with ⟨z0, z, z2⟩ | ⟨z0, z, z2⟩
      · subst z0; subst z; subst z2
        cases O' <;> simp at hj ⊢ <;> omega
      · subst z0; subst z; subst z2
        cases P' <;> simp at hj ⊢ <;> omega
theorem s_write {N : Nat} (hN : 1048576 ≤ N) (h : isT n tp bytes tape) (v1 td : Int32) (hs fs sn : Nat → Int32) : wfin v1 td hs fs sn (f_X8_readText N (nI n) bytes) (f_X11_write_51 N N v1 (nI n) 0 0 0 0 0 1 td tape hs fs sn) := by
  have h40 := h.1
  obtain ⟨k, s⟩ := skp_ex tp n n 0 (by omega)
  obtain ⟨M, hM⟩ : ∃ M, N = M + 1 := ⟨N - 1, by omega⟩
  have w := wr_part N (f_X11_write_51 N M) v1 td hs fs sn hN h (a := 0) (b := 0) ⟨by decide, by decide, by decide, by decide⟩ false false s.2.1 s.2.2.1
  have s1 : f_X8_skipBlanks N (nI n) 0 bytes = some (nI k) := s_skip hN h s
  have e := r56 N (f_X11_write_51 N M) v1 0 0 0 0 td hs fs sn h k 0 (by omega) s N (by have := s.2.1; omega)
  have e1 : f_X11_write_51 N N v1 (nI n) 0 0 0 0 0 1 td tape hs fs sn = f_X11_write_79 N (f_X11_write_51 N M) v1 (nI n) (nI k) 0 0 0 0 td tape hs fs sn := by
    have : f_X11_write_51 N N v1 (nI n) 0 0 0 0 0 1 td tape hs fs sn = f_X11_write_51 N (M + 1) v1 (nI n) 0 0 0 0 0 1 td tape hs fs sn := by rw [← hM]
    rw [this, f_X11_write_51, if_neg j1]
    exact e
  unfold f_X8_readText
  rw [e1, s1, Option.bind_some]
  rcases w with ⟨F, k', hF, w1, w2⟩ | ⟨a', b', P', O', k', u1, u2, u3, u4, w1, w2⟩
  · have w1' : f_X8_readPart N 1 0 0 (nI n) (nI k) 0 0 bytes = some (F, iI 0, iI 0, nI k', bI false, bI false) := w1
    have w2' : f_X11_write_79 N (f_X11_write_51 N M) v1 (nI n) (nI k) 0 0 0 0 td tape hs fs sn = some (F, td, hs, fs, sn) := w2
    rw [w1', w2', Option.bind_some]
    have q : f_X8_readText_42 N N F 0 (iI 0) (iI 0) (nI n) (nI k') (bI false) (bI false) bytes = some (F, iI 0, iI 0, nI n, nI k', bI false, bI false) := by
      have : f_X8_readText_42 N N F 0 (iI 0) (iI 0) (nI n) (nI k') (bI false) (bI false) bytes = f_X8_readText_42 N (M + 1) F 0 (iI 0) (iI 0) (nI n) (nI k') (bI false) (bI false) bytes := by rw [← hM]
      rw [this, f_X8_readText_42, if_neg (by decide), if_neg hF]
    left
    exact ⟨F, _, hF, q, rfl⟩
  · have w1' : f_X8_readPart N 1 0 0 (nI n) (nI k) 0 0 bytes = some (0, iI a', iI b', nI k', bI P', bI O') := w1
    have w2' : f_X11_write_79 N (f_X11_write_51 N M) v1 (nI n) (nI k) 0 0 0 0 td tape hs fs sn = _ := w2
    rw [w1', w2', Option.bind_some]
    refine wr_more hN h v1 td hs fs sn 2 a' b' P' O' u3 ?_ ?_ k' 0 N M u1 u2 (by omega) (by omega) (by omega)
    · rcases u4 with ⟨-, z, -⟩ | ⟨-, z, -⟩ <;> · subst z; simp
    · cases P' <;> cases O' <;> simp
end WRITE
theorem q_write (N : Nat) (hN : 1048576 ≤ N) (v1 v2 : Int32) (m_drawers_full m_drawers_kept : Int32) (m_drawers_partA m_drawers_partB m_drawers_keptA m_drawers_keptB m_drawers_keptFull : Nat → Int32) (m_tape_size m_tape_plain m_tape_omegas m_tape_end m_tape_place m_tape_plainTold m_tape_omegasTold : Int32) (m_tape_bytes : Nat → Int32) (m_primes_count : Int32) (m_primes_primeA m_primes_primeB : Nat → Int32) (m_taped m_states m_listed : Int32) (m_tape m_has m_keptHas m_first m_second m_keptFirst m_keptSecond m_la0 m_lb0 : Nat → Int32) (hR : kR m_drawers_full m_drawers_kept m_drawers_partA m_drawers_partB m_drawers_keptA m_drawers_keptB m_drawers_keptFull m_tape_size m_tape_bytes m_primes_count m_primes_primeA m_primes_primeB m_taped m_tape m_has m_keptHas m_first m_second m_keptFirst m_keptSecond m_states m_la0 m_lb0 m_listed) : ∃ (y : Int32 × Int32 × (Nat → Int32) × (Nat → Int32) × Int32 × Int32 × Int32 × Int32 × Int32 × Int32 × Int32) (z : Int32 × Int32 × (Nat → Int32) × (Nat → Int32) × (Nat → Int32)), f_X10_write N v1 v2 m_drawers_full m_drawers_partA m_drawers_partB m_tape_size m_tape_plain m_tape_omegas m_tape_end m_tape_place m_tape_plainTold m_tape_omegasTold m_tape_bytes = some y ∧ f_X11_write N v1 v2 m_taped m_tape m_has m_first m_second = some z ∧ y.1 = z.1 ∧ kR y.2.1 m_drawers_kept y.2.2.1 y.2.2.2.1 m_drawers_keptA m_drawers_keptB m_drawers_keptFull y.2.2.2.2.1 m_tape_bytes m_primes_count m_primes_primeA m_primes_primeB z.2.1 m_tape z.2.2.1 m_keptHas z.2.2.2.1 z.2.2.2.2 m_keptFirst m_keptSecond m_states m_la0 m_lb0 m_listed := by
  have hR0 := hR
  obtain ⟨⟨dr, hD⟩, hK, ⟨tn, tp, t1, t2, t3, t4⟩, hP⟩ := hR
  subst t2; subst t3
  unfold f_X10_write f_X11_write
  rcases dr_cases v1 with h1 | ⟨i, hi, rfl⟩
  · simp only [(dr_out h1).1, (dr_out h1).2, Option.bind_some, z00, if_true]
    exact ⟨_, _, rfl, rfl, rfl, hR0⟩
  obtain ⟨w, hw, rfl⟩ := iI_of v2
  have hlt : (iI w < 1) = (w < 1) := propext (iI_lt hw (b := 1) ⟨by decide, by decide⟩)
  have hle : ((40 : Int32) < iI w) = (40 < w) := propext (iI_lt (a := 40) ⟨by decide, by decide⟩ hw)
  have hin : f_X11_in (iI w).toInt64 1 40 = some (if 1 ≤ w ∧ w ≤ 40 then 1 else 0) := s_in32 hw (l := 1) (h := 40) ⟨by decide, by decide⟩ ⟨by decide, by decide⟩
  have hsz : (iI w ≤ nI tn) = (w ≤ tn) := by rw [iI_nI]; exact propext (iI_le hw ⟨by omega, by omega⟩)
  simp only [(dr_in hi).1, (dr_in hi).2, Option.bind_some, z10, if_false, hlt, hle, hin, hsz]
  by_cases c1 : w < 1
  · simp only [c1, if_true, show ¬ (1 ≤ w ∧ w ≤ 40) by omega, if_false, z00]
    exact ⟨_, _, rfl, rfl, rfl, hR0⟩
  by_cases c2 : 40 < w
  · simp only [c1, c2, if_true, show ¬ (1 ≤ w ∧ w ≤ 40) by omega, if_false, z00]
    exact ⟨_, _, rfl, rfl, rfl, hR0⟩
  simp only [c1, c2, show (1 ≤ w ∧ w ≤ 40) by omega, and_self, if_true, if_false, z10]
  by_cases c3 : w ≤ tn
  · obtain ⟨n, rfl⟩ := Int.eq_ofNat_of_zero_le (show 0 ≤ w by omega)
    rw [if_pos c3, if_pos c3, ← iI_nI n]
    have hT : isT n tp m_tape_bytes m_tape := ⟨by omega, fun i hi => t4 i (by omega)⟩
    have kt : ∃ (tn' : Nat) (tp' : Nat → Nat), kRt 0 m_tape_bytes 0 m_tape tn' tp' := ⟨0, tp, by decide, rfl, rfl, fun i hi => absurd hi (by omega)⟩
    rcases s_write hN hT (nI i) 0 m_has m_first m_second with ⟨F, u, hF, e1, e2⟩ | ⟨a', b', u, hn, e1, e2⟩
    · rw [e1, e2, Option.bind_some, if_neg hF]
      exact ⟨_, _, rfl, rfl, rfl, ⟨dr, hD⟩, hK, kt, hP⟩
    · have ep : f_X11_puts (nI i) (iI a').toInt64 (iI b').toInt64 m_has m_first m_second = some (upd m_has i 1, upd m_first i (iI a'), upd m_second i (iI b')) := by
        rw [s_puts hi, iI_l hn.b32.1, iI_l hn.b32.2, lI_i, lI_i]
      rw [e1, e2, ep, Option.bind_some, Option.bind_some, if_pos rfl]
      simp only []
      rw [s_fill hi, Option.bind_some]
      exact ⟨_, _, rfl, rfl, rfl, ⟨_, kRow_fill hD hi hn⟩, hK, kt, hP⟩
  · rw [if_neg c3, if_neg c3]
    exact ⟨_, _, rfl, rfl, rfl, hR0⟩
