/-! ===== letter ===== -/
def LR (v2 : Int32) (c : Nat) (bytes : Nat → Int32) (found : Int32) : Prop := ∀ w : Nat, w < c → v2 = nI w → found = bytes w
theorem let1 {v2 : Int32} {c : Nat} {bytes : Nat → Int32} {found : Int32} (h : LR v2 c bytes found) (hc : c < 16) (x : Int32) : f_X3_add x (nI c) bytes = some (nI (c + 1), upd bytes c x) ∧ ∃ found', f_X11_letters x (nI c) v2 found = some (nI (c + 1), found') ∧ LR v2 (c + 1) (upd bytes c x) found' := by
  constructor
  · unfold f_X3_add
    rw [if_neg (nI_pos (by omega)), if_neg (show ¬ (16 : Int32) ≤ nI c from nI_ge (b := 16) hc (by decide)), if_neg (nI_in hc (by decide)), nI_clamp (by omega), nI_1]
  · unfold f_X11_letters
    by_cases e : nI c = v2
    · rw [if_pos e, nI_1]
      refine ⟨x, rfl, fun w hw hv => ?_⟩
      rw [← e] at hv
      have := (nI_eq (by omega) (by omega)).mp hv
      subst this
      simp [upd]
    · rw [if_neg e, nI_1]
      refine ⟨found, rfl, fun w hw hv => ?_⟩
      have hne : w ≠ c := fun z => e (by rw [hv, z])
      simp only [upd, hne, if_false]
      exact h w (by omega) hv
theorem dstep {N k k' : Nat} {v2 : Int32} {c : Nat} {bytes : Nat → Int32} {found : Int32} (h : LR v2 c bytes found) (hc : c < 16) {n u u' : Int} (h0 : 0 ≤ n) (h9 : n ≤ 9999) (hu : (u = 1000 ∧ u' = 100) ∨ (u = 100 ∧ u' = 10) ∨ (u = 10 ∧ u' = 1) ∨ (u = 1 ∧ u' = 0)) {g : Int32} (hg : g = if 10 * u ≤ n then 1 else 0) : ∃ (c' : Nat) (bytes' : Nat → Int32) (found' : Int32), c' ≤ c + 1 ∧ LR v2 c' bytes' found' ∧ f_X3_addNumber_22 N (k + 1) (iI n) g (iI u) (nI c) bytes = f_X3_addNumber_22 N k (iI n) (if u ≤ n ∨ u = 1 then 1 else 0) (iI u') (nI c') bytes' ∧ f_X11_digits_4 N (k' + 1) (iI n) (iI u) (nI c) v2 found = f_X11_digits_4 N k' (iI n) (iI u') (nI c') v2 found' := by
  have bn : b32 n := ⟨by omega, by omega⟩
  have bu : b32 u := ⟨by omega, by omega⟩
  have eq0 : iI n / iI u = iI (n / u) := iI_dv h0 bn bu
  have nu0 : 0 ≤ n / u := Int.ediv_nonneg h0 (by omega)
  have bq : b32 (n / u) := by rcases hu with ⟨rfl, rfl⟩ | ⟨rfl, rfl⟩ | ⟨rfl, rfl⟩ | ⟨rfl, rfl⟩ <;> exact ⟨by omega, by omega⟩
  have e10 : (10 : Int32) = iI 10 := rfl
  have eD : iI (n / u) - iI (n / u) / 10 * 10 = iI (n / u % 10) := by rw [e10]; exact iI_mod nu0 bq ⟨by decide, by decide⟩
  have eu : iI u / 10 = iI u' := by
    rw [e10, iI_dv (by omega) bu ⟨by decide, by decide⟩]; congr 1
    rcases hu with ⟨rfl, rfl⟩ | ⟨rfl, rfl⟩ | ⟨rfl, rfl⟩ | ⟨rfl, rfl⟩ <;> rfl
  have bd : b32 (n / u % 10) := ⟨by omega, by omega⟩
  have c1 : (iI u < 1) = False := eq_false (by rw [i1, iI_lt bu ⟨by decide, by decide⟩]; omega)
  have c2 : (iI u = 0) = False := eq_false (by rw [iI_0 bu]; omega)
  have c3 : (iI u ≤ 0) = False := eq_false (by rw [i0, iI_le bu ⟨by decide, by decide⟩]; omega)
  have c4 : (iI u = 1) = (u = 1) := propext (by rw [i1]; exact iI_eq bu ⟨by decide, by decide⟩)
  have c5 : (iI u ≤ iI n) = (u ≤ n) := propext (iI_le bu bn)
  have c6 : (iI (n / u % 10) = 0) = (n / u % 10 = 0) := propext (iI_0 bd)
  obtain ⟨a1, found', a2, a3⟩ := let1 h hc (48 + iI (n / u % 10))
  rw [f_X3_addNumber_22, f_X11_digits_4]
  simp only [f_X3_addNumber_57, f_X11_digits_18, eq0, eD, eu, c1, c2, c3, c4, c5, c6, if_false, z10, z00, if_true, a1, a2, Option.bind_some]
  by_cases hcond : u ≤ n ∨ u = 1
  · refine ⟨c + 1, upd bytes c (48 + iI (n / u % 10)), found', by omega, a3, ?_, ?_⟩
    · rw [if_pos hcond, hg]
      by_cases hgg : 10 * u ≤ n
      · simp only [hgg, if_true, z10, if_false]
      · simp only [hgg, if_false, z00, if_true]
        by_cases hd : n / u % 10 = 0
        · have : u = 1 := by
            rcases hu with ⟨rfl, rfl⟩ | ⟨rfl, rfl⟩ | ⟨rfl, rfl⟩ | ⟨rfl, rfl⟩ <;> omega
          rw [if_pos hd, if_pos this]
        · rw [if_neg hd]
    · by_cases hun : u ≤ n
      · rw [if_pos hun]
      · rw [if_neg hun, if_pos (by omega)]
  · refine ⟨c, bytes, found, by omega, h, ?_, ?_⟩
    · have hgg : ¬ 10 * u ≤ n := by omega
      have hd : n / u % 10 = 0 := by
        rcases hu with ⟨rfl, rfl⟩ | ⟨rfl, rfl⟩ | ⟨rfl, rfl⟩ | ⟨rfl, rfl⟩ <;> omega
      rw [hg]
      simp only [hgg, if_false, z00, if_true, hcond, hd]
      rw [if_neg (by omega)]
    · rw [if_neg (by omega), if_neg (by omega)]
theorem digs {N : Nat} (hN : 1048576 ≤ N) {v2 : Int32} {c : Nat} {bytes : Nat → Int32} {found : Int32} (h : LR v2 c bytes found) (hc : c + 4 ≤ 16) {n : Int} (h0 : 0 ≤ n) (h9 : n ≤ 9999) : ∃ (c' : Nat) (bytes' : Nat → Int32) (found' : Int32), c' ≤ c + 4 ∧ LR v2 c' bytes' found' ∧ f_X3_addNumber_22 N N (iI n) 0 1000 (nI c) bytes = some (nI c', bytes') ∧ f_X11_digits N (iI n) (nI c) v2 found = some (nI c', found') := by
  obtain ⟨M, rfl⟩ : ∃ M, N = M + 5 := ⟨N - 5, by omega⟩
  have e1000 : (1000 : Int32) = iI 1000 := rfl
  unfold f_X11_digits
  rw [e1000]
  obtain ⟨c1, b1, f1, q1, r1, s1, t1⟩ := dstep (N := M + 5) (k := M + 4) (k' := M + 4) h (by omega) h0 h9 (u := 1000) (u' := 100) (Or.inl ⟨rfl, rfl⟩) (g := 0) (by rw [if_neg (by omega)])
  obtain ⟨c2, b2, f2, q2, r2, s2, t2⟩ := dstep (N := M + 5) (k := M + 3) (k' := M + 3) r1 (by omega) h0 h9 (u := 100) (u' := 10) (Or.inr (Or.inl ⟨rfl, rfl⟩)) (g := if (1000 : Int) ≤ n ∨ (1000 : Int) = 1 then 1 else 0) (by by_cases hh : (1000 : Int) ≤ n <;> simp [hh])
  obtain ⟨c3, b3, f3, q3, r3, s3, t3⟩ := dstep (N := M + 5) (k := M + 2) (k' := M + 2) r2 (by omega) h0 h9 (u := 10) (u' := 1) (Or.inr (Or.inr (Or.inl ⟨rfl, rfl⟩))) (g := if (100 : Int) ≤ n ∨ (100 : Int) = 1 then 1 else 0) (by by_cases hh : (100 : Int) ≤ n <;> simp [hh])
  obtain ⟨c4, b4, f4, q4, r4, s4, t4⟩ := dstep (N := M + 5) (k := M + 1) (k' := M + 1) r3 (by omega) h0 h9 (u := 1) (u' := 0) (Or.inr (Or.inr (Or.inr ⟨rfl, rfl⟩))) (g := if (10 : Int) ≤ n ∨ (10 : Int) = 1 then 1 else 0) (by by_cases hh : (10 : Int) ≤ n <;> simp [hh])
  refine ⟨c4, b4, f4, by omega, r4, ?_, ?_⟩
  · rw [s1, s2, s3, s4, f_X3_addNumber_22, if_pos (by decide)]
  · rw [t1, t2, t3, t4, f_X11_digits_4, if_pos (by decide)]
theorem s_abs32 {a : Int} (ha : b32 a) : f_J9_abs_0f7a4 (iI a) = some (iI a.natAbs) := by
  unfold f_J9_abs_0f7a4
  simp only [iI_0le ha, iI_neg]
  by_cases h : 0 ≤ a
  · rw [if_pos h]; congr 2; omega
  · rw [if_neg h]; congr 2; omega
/-- the letters of a number with its sign, on both sides -/
theorem numb {N : Nat} (hN : 1048576 ≤ N) {v2 : Int32} {c : Nat} {bytes : Nat → Int32} {found : Int32} (h : LR v2 c bytes found) (hc : c + 5 ≤ 16) {n : Int} (h0 : -9999 ≤ n) (h9 : n ≤ 9999) : ∃ (c' : Nat) (bytes' : Nat → Int32) (found' : Int32), c' ≤ c + 5 ∧ LR v2 c' bytes' found' ∧ f_X3_addNumber N (iI n) (nI c) bytes = some (nI c', bytes') ∧ (if 0 ≤ n then f_X11_digits N (iI n) (nI c) v2 found = some (nI c', found') else ∃ found1, f_X11_letters 45 (nI c) v2 found = some (nI (c + 1), found1) ∧ f_X11_digits N (iI (-n)) (nI (c + 1)) v2 found1 = some (nI c', found')) := by
  have bn : b32 n := ⟨by omega, by omega⟩
  unfold f_X3_addNumber f_X3_addNumber_10
  simp only [iI_0le bn, s_abs32 bn, Option.bind_some]
  by_cases hs : 0 ≤ n
  · obtain ⟨c', b', f', q1, q2, q3, q4⟩ := digs hN h (by omega) hs h9
    have e : (n.natAbs : Int) = n := by omega
    refine ⟨c', b', f', by omega, q2, ?_, ?_⟩
    · rw [if_pos hs, e]; exact q3
    · rw [if_pos hs]; exact q4
  · obtain ⟨a1, found1, a2, a3⟩ := let1 h (by omega) 45
    obtain ⟨c', b', f', q1, q2, q3, q4⟩ := digs hN a3 (by omega) (n := -n) (by omega) (by omega)
    have e : (n.natAbs : Int) = -n := by omega
    refine ⟨c', b', f', by omega, q2, ?_, ?_⟩
    · rw [if_neg hs, a1, Option.bind_some, e]; exact q3
    · rw [if_neg hs]; exact ⟨found1, a2, q4⟩
/-- the end on both sides -/
theorem let_end {N : Nat} {v2 : Int32} (hv : (-1 : Int32) ≤ v2) {c : Nat} {bytes : Nat → Int32} {found : Int32} (h : LR v2 c bytes found) (hc : c ≤ 16) (x y : Int64) : ∃ (p : Int32 × Int32 × (Nat → Int32) × Int64 × Int64) (q : Int32 × Int32 × Int32 × Int32), (if v2 = (-1 : Int32) then some (nI c, nI c, bytes, x, y) else if v2 < nI c then (f_X3_at v2 (nI c) bytes).bind fun y97 => some (y97, nI c, bytes, x, y) else some ((-3 : Int32), nI c, bytes, x, y)) = some p ∧ f_X11_letter_150 N v2 (nI c) v2 found = some q ∧ p.1 = q.1 := by
  unfold f_X11_letter_150
  by_cases c1 : v2 = -1
  · rw [if_pos c1, if_pos c1]; exact ⟨_, _, rfl, rfl, rfl⟩
  · rw [if_neg c1, if_neg c1]
    have h0 : ¬ v2 < 0 := by
      intro z
      have z1 := Int32.le_iff_toInt_le.mp hv
      have z2 := Int32.lt_iff_toInt_lt.mp z
      apply c1
      apply Int32.toInt_inj.mp
      have e1 : (-1 : Int32).toInt = -1 := rfl
      have e0 : (0 : Int32).toInt = 0 := rfl
      rw [e1] at z1 ⊢; rw [e0] at z2; omega
    obtain ⟨w, hw, rfl⟩ := nI_of h0
    by_cases c2 : w < c
    · rw [if_pos (nI_lt c2 (by omega)), if_neg (nI_ge c2 (by omega))]
      have ea : f_X3_at (nI w) (nI c) bytes = some (bytes w) := by
        unfold f_X3_at
        rw [if_neg h0, if_neg (nI_ge c2 (by omega)), if_neg (show ¬ (16 : Int32) ≤ nI w from nI_ge (b := 16) (by omega) (by decide)), if_neg (nI_in (show w < 16 by omega) (by decide)), nI_clamp (by omega)]
      rw [ea, Option.bind_some]
      exact ⟨_, _, rfl, rfl, (h w c2 rfl).symm⟩
    · rw [if_neg (nI_nlt (by omega) (by omega)), if_pos (nI_le (by omega) (by omega))]
      exact ⟨_, _, rfl, rfl, rfl⟩
/-- what is behind the first part -/
theorem let_b {N : Nat} (hN : 1048576 ≤ N) {v2 : Int32} (hv : (-1 : Int32) ≤ v2) {c : Nat} {bytes : Nat → Int32} {found : Int32} (h : LR v2 c bytes found) (hc : c ≤ 5) {a b : Int} (ha : b32 a) (h0 : -9999 ≤ b) (h9 : b ≤ 9999) (x y : Int64) : ∃ (p : Int32 × Int32 × (Nat → Int32) × Int64 × Int64) (q : Int32 × Int32 × Int32 × Int32), ((f_X3_spellOut_18 N (iI a) (iI b) (nI c) bytes).bind fun y60 => if v2 = (-1 : Int32) then some (y60.1, y60.1, y60.2, x, y) else if v2 < y60.1 then (f_X3_at v2 y60.1 y60.2).bind fun y97 => some (y97, y60.1, y60.2, x, y) else some ((-3 : Int32), y60.1, y60.2, x, y)) = some p ∧ f_X11_letter_84 N v2 (iI a) (iI b) (nI c) v2 found = some q ∧ p.1 = q.1 := by
  have bb : b32 b := ⟨by omega, by omega⟩
  have k1 : (iI b ≤ 0) = (b ≤ 0) := propext (by rw [i0]; exact iI_le bb ⟨by decide, by decide⟩)
  have k2 : (iI b = -1) = (b = -1) := propext (by rw [im1]; exact iI_eq bb ⟨by decide, by decide⟩)
  have k3 : (iI b = 1) = (b = 1) := propext (by rw [i1]; exact iI_eq bb ⟨by decide, by decide⟩)
  have k4 : ((1 : Int32) < iI b) = (1 < b) := propext (by rw [i1]; exact iI_lt ⟨by decide, by decide⟩ bb)
  have k5 : ((-1 : Int32) ≤ iI b) = (-1 ≤ b) := propext (by rw [im1]; exact iI_le ⟨by decide, by decide⟩ bb)
  unfold f_X3_spellOut_18 f_X3_spellOut_37 f_X11_letter_84 f_X11_letter_95 f_X11_letter_122 f_X11_letter_139
  simp only [k1, k2, k3, k4, k5, iI_0 bb, iI_0 ha, iI_0le bb]
  by_cases hb0 : b = 0
  · subst hb0
    simp only [if_true, show ((0 : Int) ≤ 0) = True from eq_true (by decide), show ((1 : Int) < 0) = False from eq_false (by decide), show ((-1 : Int) ≤ 0) = True from eq_true (by decide), if_false, Option.bind_some]
    exact let_end hv h (by omega) x y
  · by_cases hbp : b ≤ 0
    · have s1 : (0 ≤ b) = False := eq_false (by omega)
      have s2 : (1 < b) = False := eq_false (by omega)
      have s3 : (b = 1) = False := eq_false (by omega)
      by_cases hm : b = -1
      · have s4 : (-1 ≤ b) = True := eq_true (by omega)
        obtain ⟨a1, f1, a2, a3⟩ := let1 h (by omega) 45
        obtain ⟨b1, f2, b2, b3⟩ := let1 a3 (by omega) 119
        simp only [hb0, hbp, s1, s2, s3, hm, if_true, if_false, a1, a2, b1, b2, Option.bind_some, show ((-1 : Int) ≤ -1) = True from eq_true (by decide), show ((-1 : Int) ≤ 0) = True from eq_true (by decide), show ((0 : Int) ≤ -1) = False from eq_false (by decide), show ((1 : Int) < -1) = False from eq_false (by decide), show ((-1 : Int) = 0) = False from eq_false (by decide)]
        exact let_end hv b3 (by omega) x y
      · have s4 : (-1 ≤ b) = False := eq_false (by omega)
        obtain ⟨c', b', f', q1, q2, q3, q4⟩ := numb hN h (by omega) h0 h9
        rw [if_neg (by omega)] at q4
        obtain ⟨f1, q4, q5⟩ := q4
        obtain ⟨b1, f2, b2, b3⟩ := let1 q2 (by omega) 119
        simp only [hb0, hbp, s1, s2, s3, hm, s4, if_true, if_false, iI_neg, q3, q4, q5, b1, b2, Option.bind_some]
        exact let_end hv b3 (by omega) x y
    · have s1 : (0 ≤ b) = True := eq_true (by omega)
      have s3 : (b = -1) = False := eq_false (by omega)
      have s4 : (-1 ≤ b) = True := eq_true (by omega)
      have sp : ∃ (c1 : Nat) (b1 : Nat → Int32) (f1 : Int32), c1 ≤ c + 1 ∧ LR v2 c1 b1 f1 ∧ (if a = 0 then (c1 = c ∧ b1 = bytes ∧ f1 = found) else (f_X3_add 43 (nI c) bytes = some (nI c1, b1) ∧ f_X11_letters 43 (nI c) v2 found = some (nI c1, f1))) := by
        by_cases ha0 : a = 0
        · exact ⟨c, bytes, found, by omega, h, by rw [if_pos ha0]; exact ⟨rfl, rfl, rfl⟩⟩
        · obtain ⟨a1, f1, a2, a3⟩ := let1 h (by omega) 43
          exact ⟨_, _, _, by omega, a3, by rw [if_neg ha0]; exact ⟨a1, a2⟩⟩
      obtain ⟨c1, b1, f1, hc1, h1, hsp⟩ := sp
      have fin : ∃ (c' : Nat) (b' : Nat → Int32) (f' : Int32), c' ≤ 15 ∧ LR v2 c' b' f' ∧ (if b = 1 then (c' = c1 ∧ b' = b1 ∧ f' = f1) else (f_X3_addNumber N (iI b) (nI c1) b1 = some (nI c', b') ∧ f_X11_digits N (iI b) (nI c1) v2 f1 = some (nI c', f'))) := by
        by_cases hb1 : b = 1
        · exact ⟨c1, b1, f1, by omega, h1, by rw [if_pos hb1]; exact ⟨rfl, rfl, rfl⟩⟩
        · obtain ⟨c', b', f', q1, q2, q3, q4⟩ := numb hN h1 (by omega) h0 h9
          rw [if_pos (by omega)] at q4
          exact ⟨_, _, _, by omega, q2, by rw [if_neg hb1]; exact ⟨q3, q4⟩⟩
      obtain ⟨c', b', f', hc', h', hfin⟩ := fin
      obtain ⟨w1, f2, w2, w3⟩ := let1 h' (by omega) 119
      have ende := let_end (N := N) hv w3 (by omega) x y
      by_cases ha0 : a = 0
      · rw [if_pos ha0] at hsp
        obtain ⟨rfl, rfl, rfl⟩ := hsp
        by_cases hb1 : b = 1
        · rw [if_pos hb1] at hfin
          obtain ⟨rfl, rfl, rfl⟩ := hfin
          have s5 : (1 < b) = False := eq_false (by omega)
          simp only [hb0, hbp, s1, s3, s4, s5, ha0, hb1, if_true, if_false, w1, w2, Option.bind_some, show ((0 : Int) ≤ 1) = True from eq_true (by decide), show ((1 : Int) = 0) = False from eq_false (by decide), show ((1 : Int) ≤ 0) = False from eq_false (by decide), show ((1 : Int) < 1) = False from eq_false (by decide), show ((1 : Int) = -1) = False from eq_false (by decide), show ((-1 : Int) ≤ 1) = True from eq_true (by decide)]
          exact ende
        · rw [if_neg hb1] at hfin
          have s5 : (1 < b) = True := eq_true (by omega)
          simp only [hb0, hbp, s1, s3, s4, s5, ha0, hb1, if_true, if_false, hfin.1, hfin.2, w1, w2, Option.bind_some]
          exact ende
      · rw [if_neg ha0] at hsp
        by_cases hb1 : b = 1
        · rw [if_pos hb1] at hfin
          obtain ⟨rfl, rfl, rfl⟩ := hfin
          have s5 : (1 < b) = False := eq_false (by omega)
          simp only [hb0, hbp, s1, s3, s4, s5, ha0, hb1, hsp.1, hsp.2, if_true, if_false, w1, w2, Option.bind_some, show ((0 : Int) ≤ 1) = True from eq_true (by decide), show ((1 : Int) = 0) = False from eq_false (by decide), show ((1 : Int) ≤ 0) = False from eq_false (by decide), show ((1 : Int) < 1) = False from eq_false (by decide), show ((1 : Int) = -1) = False from eq_false (by decide), show ((-1 : Int) ≤ 1) = True from eq_true (by decide)]
          exact ende
        · rw [if_neg hb1] at hfin
          have s5 : (1 < b) = True := eq_true (by omega)
          simp only [hb0, hbp, s1, s3, s4, s5, ha0, hb1, hsp.1, hsp.2, if_true, if_false, hfin.1, hfin.2, w1, w2, Option.bind_some]
          exact ende
theorem q_letter (N : Nat) (hN : 1048576 ≤ N) (v1 v2 : Int32) (m_drawers_full m_drawers_kept : Int32) (m_drawers_partA m_drawers_partB m_drawers_keptA m_drawers_keptB m_drawers_keptFull : Nat → Int32) (m_tape_size : Int32) (m_tape_bytes : Nat → Int32) (m_primes_count : Int32) (m_primes_primeA m_primes_primeB : Nat → Int32) (m_letters_count : Int32) (m_letters_bytes : Nat → Int32) (m_one_a m_one_b : Int64) (m_taped m_states m_listed m_tells m_wanted m_found : Int32) (m_tape m_has m_keptHas m_first m_second m_keptFirst m_keptSecond m_la0 m_lb0 : Nat → Int32) (hR : kR m_drawers_full m_drawers_kept m_drawers_partA m_drawers_partB m_drawers_keptA m_drawers_keptB m_drawers_keptFull m_tape_size m_tape_bytes m_primes_count m_primes_primeA m_primes_primeB m_taped m_tape m_has m_keptHas m_first m_second m_keptFirst m_keptSecond m_states m_la0 m_lb0 m_listed) : ∃ (y : Int32 × Int32 × (Nat → Int32) × Int64 × Int64) (z : Int32 × Int32 × Int32 × Int32), f_X10_letter N v1 v2 m_drawers_full m_drawers_partA m_drawers_partB m_letters_count m_letters_bytes m_one_a m_one_b = some y ∧ f_X11_letter N v1 v2 m_tells m_wanted m_found m_has m_first m_second = some z ∧ y.1 = z.1 ∧ kR m_drawers_full m_drawers_kept m_drawers_partA m_drawers_partB m_drawers_keptA m_drawers_keptB m_drawers_keptFull m_tape_size m_tape_bytes m_primes_count m_primes_primeA m_primes_primeB m_taped m_tape m_has m_keptHas m_first m_second m_keptFirst m_keptSecond m_states m_la0 m_lb0 m_listed := by
  have hR0 := hR
  obtain ⟨⟨dr, hD⟩, hK, hT, hP⟩ := hR
  rcases dr_cases v1 with h | ⟨i, hi, rfl⟩
  · simp only [f_X10_letter, f_X11_letter, Option.bind_some, (dr_out h).1, (dr_out h).2, z00, if_true]
    exact ⟨_, _, rfl, rfl, rfl, hR0⟩
  · simp only [f_X10_letter, f_X11_letter, Option.bind_some, (dr_in hi).1, (dr_in hi).2, z10, if_false, dr_cl hi, dr_n0 hi, dr_8 hi, or_self]
    by_cases hv : (-1 : Int32) ≤ v2
    · rw [if_pos hv, if_pos hv]
      cases ei : dr i with
      | none =>
        simp only [s_has0 hD hi ei, hD.hasN hi ei, Option.bind_some, z00, if_true]
        exact ⟨_, _, rfl, rfl, rfl, hR0⟩
      | some p =>
        obtain ⟨a, b⟩ := p
        obtain ⟨hn, -, -, f1, g1⟩ := hD.num hi ei
        simp only [s_has1 hD hi ei, hD.has1 hi ei, s_load hD hi ei, Option.bind_some, z10, if_false, f1, g1, lI_i, iI_0le hn.b32.1, iI_0 hn.b32.1, iI_0 hn.b32.2]
        unfold f_X3_spellOut f_X11_letter_70
        simp only [iI_0le hn.b32.1, iI_0 hn.b32.1, iI_0 hn.b32.2, iI_neg]
        obtain ⟨n1, n2, n3, n4⟩ := hn
        have h0 : LR v2 0 m_letters_bytes m_found := fun w hw => absurd hw (by omega)
        have fin : ∀ {P : Int32 × Int32 × (Nat → Int32) × Int64 × Int64 → Int32 × Int32 × Int32 × Int32 → Prop} {F : Option (Int32 × Int32 × (Nat → Int32) × Int64 × Int64)} {G : Option (Int32 × Int32 × Int32 × Int32)}, (∃ p q, F = some p ∧ G = some q ∧ p.1 = q.1) → ∃ p q, F = some p ∧ G = some q ∧ p.1 = q.1 ∧ kR m_drawers_full m_drawers_kept m_drawers_partA m_drawers_partB m_drawers_keptA m_drawers_keptB m_drawers_keptFull m_tape_size m_tape_bytes m_primes_count m_primes_primeA m_primes_primeB m_taped m_tape m_has m_keptHas m_first m_second m_keptFirst m_keptSecond m_states m_la0 m_lb0 m_listed := by
          intro P F G ⟨p, q, h1, h2, h3⟩
          exact ⟨p, q, h1, h2, h3, hR0⟩
        apply fin (P := fun _ _ => True)
        by_cases ha0 : a = 0 ∧ b ≠ 0
        · obtain ⟨rfl, hb0⟩ := ha0
          simp only [if_true, hb0, if_false, show ((0 : Int) ≤ 0) = True from eq_true (by decide)]
          exact let_b hN hv h0 (by omega) ⟨by decide, by decide⟩ n3 n4 _ _
        · obtain ⟨c', b', f', q1, q2, q3, q4⟩ := numb hN h0 (by omega) n1 n2
          have lb := fun x y => let_b hN hv q2 (by omega) (a := a) ⟨by omega, by omega⟩ n3 n4 x y
          by_cases hs : 0 ≤ a
          · rw [if_pos hs] at q4
            have q3' : f_X3_addNumber N (iI a) 0 m_letters_bytes = some (nI c', b') := q3
            have q4' : f_X11_digits N (iI a) 0 v2 m_found = some (nI c', f') := q4
            by_cases h1 : a = 0
            · have h2 : b = 0 := by
                by_cases hb : b = 0
                · exact hb
                · exact absurd ⟨h1, hb⟩ ha0
              simp only [hs, h1, h2, if_true, if_false] at q3' q4' lb ⊢
              simp only [q3', q4', Option.bind_some, show ((0 : Int) ≤ 0) = True from eq_true (by decide), if_true]
              exact lb _ _
            · simp only [hs, h1, if_true, if_false, q3', q4', Option.bind_some]
              exact lb _ _
          · rw [if_neg hs] at q4
            obtain ⟨f1, q4, q5⟩ := q4
            have q3' : f_X3_addNumber N (iI a) 0 m_letters_bytes = some (nI c', b') := q3
            have q4' : f_X11_letters 45 0 v2 m_found = some (nI (0 + 1), f1) := q4
            have h1 : ¬ a = 0 := by omega
            simp only [hs, h1, if_false, q3', q4', q5, Option.bind_some]
            exact lb _ _
    · rw [if_neg hv, if_neg hv]
      exact ⟨_, _, rfl, rfl, rfl, hR0⟩
