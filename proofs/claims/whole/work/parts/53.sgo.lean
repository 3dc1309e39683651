/-! ===== the sign by a number ===== -/
section SGO
variable {N : Nat} {L : List (Int × Int)} {z : Int × Int}
theorem sn_rest (hN : 1048576 ≤ N) (hz : eb z) (hL : ∀ y, y ∈ L → gp y) (hb : ∀ y, y ∈ L → eb y) (hl : L.length ≤ 14) {pa pb pn : Nat → Int32} (hr : rpR L pa pb pn) : ∀ (j k : Nat), k + j = L.length → ∀ (f : Nat) (s : Int32) (ra rb bw bh bs : Int64), j < f → ∃ y, f_X11_signNow_9 N f (lI z.1) (lI z.2) s 1 (nI k) ra rb (nI L.length) bw bh bs pa pb = some (3, y) := by
  intro j
  induction j with
  | zero =>
    intro k hk f s ra rb bw bh bs hf
    obtain ⟨f, rfl⟩ : ∃ f', f = f' + 1 := ⟨f - 1, by omega⟩
    rw [f_X11_signNow_9, if_pos (nI_le (by omega) (by omega)), if_neg j1]
    exact ⟨_, rfl⟩
  | succ j ih =>
    intro k hk f s ra rb bw bh bs hf
    obtain ⟨f, rfl⟩ : ∃ f', f = f' + 1 := ⟨f - 1, by omega⟩
    have hkl : k < L.length := by omega
    have mk := List.getElem_mem hkl
    obtain ⟨v, v3, -, vr⟩ := s_sgn hN hz (hL _ mk) (hb _ mk)
    obtain ⟨y, e⟩ := vr bw bh bs
    have b := eb_32 (a := L[k].1) (b := L[k].2) (hb _ mk)
    have hk' := hr k hkl
    have o := nI_in (show k < 40 by omega) (by decide)
    rw [f_X11_signNow_9, if_neg (nI_ge hkl (by omega)), if_neg o, if_neg o, nI_clamp (by omega), hk'.1, hk'.2.1, iI_l b.1, iI_l b.2, e, Option.bind_some, if_neg j1, nI_1]
    exact ih (k + 1) (by omega) f _ _ _ _ _ _ (by omega)
theorem so_loop (hN : 1048576 ≤ N) (hz : eb z) (hL : ∀ y, y ∈ L → gp y) (hb : ∀ y, y ∈ L → eb y) (hl : L.length ≤ 14) : ∀ (j k : Nat), k + j = L.length → ∀ s : Nat, ∃ r : Int32, (∀ (A B nn : Nat → Int64), rpC L A B nn → ∀ (f : Nat) (ms mw mt qa qb : Int64) (th un : Int32) (ec : Int32) (z1 z2 z3 z4 z5 z6 z7 z8 z9 z10 z11 z12 z13 z14 : Int64) (z15 z16 : Nat → Int64) (la lb fa fb pa pb ga gb oa ob sa sb : Int64), j < f → ∃ y, f_X10_signOf_13 N f (nI s) (nI k) ms mw mt qa qb (nI L.length) th un A B nn ec z1 z2 z3 z4 z5 z6 z7 z8 z9 z10 z11 z12 z13 z14 z15 z16 la lb fa fb pa pb ga gb oa ob sa sb (lI z.1) (lI z.2) = some (r, y)) ∧ (∀ (pa pb pn : Nat → Int32), rpR L pa pb pn → ∀ (f : Nat) (ra rb bw bh bs : Int64), j < f → ∃ y, f_X11_signNow_9 N f (lI z.1) (lI z.2) (nI s) 0 (nI k) ra rb (nI L.length) bw bh bs pa pb = some (r, y)) := by
  intro j
  induction j with
  | zero =>
    intro k hk s
    refine ⟨nI s - nI s / 3 * 3, ?_, ?_⟩
    · intro A B nn hr f ms mw mt qa qb th un ec z1 z2 z3 z4 z5 z6 z7 z8 z9 z10 z11 z12 z13 z14 z15 z16 la lb fa fb pa pb ga gb oa ob sa sb hf
      obtain ⟨f, rfl⟩ : ∃ f', f = f' + 1 := ⟨f - 1, by omega⟩
      rw [f_X10_signOf_13, if_pos (nI_le (by omega) (by omega))]
      exact ⟨_, rfl⟩
    · intro pa pb pn hr f ra rb bw bh bs hf
      obtain ⟨f, rfl⟩ : ∃ f', f = f' + 1 := ⟨f - 1, by omega⟩
      rw [f_X11_signNow_9, if_pos (nI_le (by omega) (by omega)), if_pos rfl]
      exact ⟨_, rfl⟩
  | succ j ih =>
    intro k hk s
    have hkl : k < L.length := by omega
    have mk := List.getElem_mem hkl
    obtain ⟨v, v3, vc, vr⟩ := s_sgn hN hz (hL _ mk) (hb _ mk)
    have b := eb_32 (a := L[k].1) (b := L[k].2) (hb _ mk)
    have o := nI_in (show k < 40 by omega) (by decide)
    by_cases c3 : v = 3
    · subst c3
      refine ⟨3, ?_, ?_⟩
      · intro A B nn hr f ms mw mt qa qb th un ec z1 z2 z3 z4 z5 z6 z7 z8 z9 z10 z11 z12 z13 z14 z15 z16 la lb fa fb pa pb ga gb oa ob sa sb hf
        obtain ⟨f, rfl⟩ : ∃ f', f = f' + 1 := ⟨f - 1, by omega⟩
        obtain ⟨y, e⟩ := vc ms mw mt ga gb
        rw [f_X10_signOf_13, if_neg (nI_ge hkl (by omega)), s_load2 hr hkl hl, Option.bind_some]
        simp only []
        rw [e, Option.bind_some, if_pos (show nI 3 = 3 from rfl)]
        exact ⟨_, rfl⟩
      · intro pa pb pn hr f ra rb bw bh bs hf
        obtain ⟨f, rfl⟩ : ∃ f', f = f' + 1 := ⟨f - 1, by omega⟩
        obtain ⟨y, e⟩ := vr bw bh bs
        have hk' := hr k hkl
        rw [f_X11_signNow_9, if_neg (nI_ge hkl (by omega)), if_neg o, if_neg o, nI_clamp (by omega), hk'.1, hk'.2.1, iI_l b.1, iI_l b.2, e, Option.bind_some, if_pos rfl, if_pos (show nI 3 = 3 from rfl), nI_1]
        exact sn_rest hN hz hL hb hl hr j (k + 1) (by omega) f _ _ _ _ _ _ (by omega)
    · have n3 : ¬ nI v = 3 := fun u => c3 ((nI_eq (show v < 2 ^ 31 by omega) (show 3 < 2 ^ 31 by decide)).mp u)
      obtain ⟨r, rC, rR⟩ := ih (k + 1) (by omega) (s + v)
      refine ⟨r, ?_, ?_⟩
      · intro A B nn hr f ms mw mt qa qb th un ec z1 z2 z3 z4 z5 z6 z7 z8 z9 z10 z11 z12 z13 z14 z15 z16 la lb fa fb pa pb ga gb oa ob sa sb hf
        obtain ⟨f, rfl⟩ : ∃ f', f = f' + 1 := ⟨f - 1, by omega⟩
        obtain ⟨y, e⟩ := vc ms mw mt ga gb
        rw [f_X10_signOf_13, if_neg (nI_ge hkl (by omega)), s_load2 hr hkl hl, Option.bind_some]
        simp only []
        rw [e, Option.bind_some, if_neg n3, nI_1]
        simp only []
        rw [nI_add]
        exact rC A B nn hr f _ _ _ _ _ _ _ _ _ _ _ _ _ _ _ _ _ _ _ _ _ _ _ _ _ _ _ _ _ _ _ _ _ _ _ _ (by omega)
      · intro pa pb pn hr f ra rb bw bh bs hf
        obtain ⟨f, rfl⟩ : ∃ f', f = f' + 1 := ⟨f - 1, by omega⟩
        obtain ⟨y, e⟩ := vr bw bh bs
        have hk' := hr k hkl
        rw [f_X11_signNow_9, if_neg (nI_ge hkl (by omega)), if_neg o, if_neg o, nI_clamp (by omega), hk'.1, hk'.2.1, iI_l b.1, iI_l b.2, e, Option.bind_some, if_pos rfl, if_neg n3, nI_1]
        simp only []
        rw [nI_add]
        exact rR pa pb pn hr f _ _ _ _ _ (by omega)
end SGO
/-- the sign of z by (c, d): the class's, and the reference's behind what it has written -/
theorem s_signs {N : Nat} (hN : 1048576 ≤ N) {z : Int × Int} (hz : eb z) {c d : Int} (hn : kNum c d) (h0 : (c, d) ≠ (0, 0)) : ∃ r : Int32, (∀ (ms mw mt qa qb : Int64) (A B nn : Nat → Int64) (ec : Int32) (z1 z2 z3 z4 z5 z6 z7 z8 z9 z10 z11 z12 z13 z14 : Int64) (z15 z16 : Nat → Int64) (fa fb pa pb ga gb oa ob sa sb : Int64), ∃ y, f_X10_signOf N ms mw mt qa qb A B nn ec z1 z2 z3 z4 z5 z6 z7 z8 z9 z10 z11 z12 z13 z14 z15 z16 fa fb pa pb ga gb oa ob sa sb (lI z.1) (lI z.2) (lI c) (lI d) = some (r, y)) ∧ (∀ (pa pb pn : Nat → Int32), ∃ (th m t u : Int32) (pa' pb' pn' : Nat → Int32), f_X11_writes N (lI c) (lI d) pa pb pn = some (lI c, lI d, th, m, t, u, pa', pb', pn') ∧ ∀ ra rb bw bh bs : Int64, ∃ y, f_X11_signNow N (lI z.1) (lI z.2) ra rb m bw bh bs pa' pb' = some (r, y)) := by
  obtain ⟨L, t, u, s1, s2, s3, s4, s5, s6, C, R⟩ := s_fac2 hN hn h0
  obtain ⟨r, rC, rR⟩ := so_loop hN hz s1.2 s2 s3 L.length 0 (by omega) 0
  refine ⟨r, ?_, ?_⟩
  · intro ms mw mt qa qb A B nn ec z1 z2 z3 z4 z5 z6 z7 z8 z9 z10 z11 z12 z13 z14 z15 z16 fa fb pa pb ga gb oa ob sa sb
    obtain ⟨A', B', n', w, r1, e2⟩ := C A B nn ec z1 z2 z3 z4 z5 z6 z7 z8 z9 z10 z11 z12 z13 z14 z15 z16 fa fb pa pb
    unfold f_X10_signOf
    rw [e2, Option.bind_some]
    exact rC A' B' n' r1 N _ _ _ _ _ _ _ _ _ _ _ _ _ _ _ _ _ _ _ _ _ _ _ _ _ _ _ _ _ _ _ _ _ _ _ _ (by omega)
  · intro pa pb pn
    obtain ⟨th, pa', pb', pn', r2, e3'⟩ := R pa pb pn
    refine ⟨th, _, _, _, pa', pb', pn', e3', fun ra rb bw bh bs => ?_⟩
    unfold f_X11_signNow
    exact rR pa' pb' pn' r2 N ra rb bw bh bs (by omega)
