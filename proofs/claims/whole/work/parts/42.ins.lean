/-! ===== primes put into rows, by norm, then b ===== -/
theorem nlt32 {c : Nat} (h : c < 32) : nI c < (32 : Int32) := nI_lt (b := 32) h (by decide)
def rpC (L : List (Int × Int)) (A B n : Nat → Int64) : Prop := ∀ k (hk : k < L.length), A k = lI L[k].1 ∧ B k = lI L[k].2 ∧ n k = lI (en L[k])
def rpR (L : List (Int × Int)) (A B n : Nat → Int32) : Prop := ∀ k (hk : k < L.length), A k = iI L[k].1 ∧ B k = iI L[k].2 ∧ n k = iI (en L[k])
theorem ins_get (L : List (Int × Int)) (x : Int × Int) {k : Nat} (hk : k ≤ L.length) (i : Nat) (hi : i < (L.take k ++ x :: L.drop k).length) : (i < k → ∃ h : i < L.length, (L.take k ++ x :: L.drop k)[i] = L[i]) ∧ (i = k → (L.take k ++ x :: L.drop k)[i] = x) ∧ (k < i → ∃ h : i - 1 < L.length, (L.take k ++ x :: L.drop k)[i] = L[i - 1]) := by
  have hl := ins_len L x hk
  refine ⟨fun c => ⟨by omega, ?_⟩, fun c => ?_, fun c => ⟨by omega, ?_⟩⟩
  · rw [List.getElem_append_left (by rw [List.length_take]; omega), List.getElem_take]
  · subst c
    rw [List.getElem_append_right (by rw [List.length_take]; omega)]
    simp only [List.length_take, Nat.min_eq_left hk, Nat.sub_self, List.getElem_cons_zero]
  · rw [List.getElem_append_right (by rw [List.length_take]; omega)]
    simp only [List.length_take, Nat.min_eq_left hk]
    obtain ⟨d, rfl⟩ : ∃ d, i = k + 1 + d := ⟨i - (k + 1), by omega⟩
    have e : k + 1 + d - k = d + 1 := by omega
    simp only [e, List.getElem_cons_succ, List.getElem_drop]
    congr 1
    omega
theorem elt_le {x y z : Int × Int} (h : ¬ elt x y) (h' : ¬ elt y z) : ¬ elt x z := by
  unfold elt at h h' ⊢
  omega
theorem eb_n64 {x : Int × Int} (h : eb x) : b64 (en x) := by
  have := en_nn x
  unfold eb at h
  exact ⟨by omega, by omega⟩
theorem eb_n32 {x : Int × Int} (h : eb x) : b32 (en x) := by
  have := en_nn x
  unfold eb at h
  exact ⟨by omega, by omega⟩
section INSC
variable {L : List (Int × Int)} {x : Int × Int}
theorem bh_c (hx : eb x) (hL : ∀ y, y ∈ L → eb y) {A B n : Nat → Int64} {j : Nat} (hj : j < L.length) (hl : L.length < 32) (e : A j = lI L[j].1 ∧ B j = lI L[j].2 ∧ n j = lI (en L[j])) : (elt x L[j] → f_X2_isBehind (nI j) (lI (en x)) B n (lI x.2) = some 1) ∧ (¬ elt x L[j] → f_X2_isBehind (nI j) (lI (en x)) B n (lI x.2) = some 0) := by
  have h1 := hL L[j] (List.getElem_mem hj)
  have n1 := eb_n64 hx
  have n2 := eb_n64 h1
  have p1 := (eb_64 (a := x.1) (b := x.2) hx).2
  have p2 := (eb_64 (a := L[j].1) (b := L[j].2) h1).2
  have o := nI_in (show j < 32 by omega) (by decide)
  have g : f_X2_isBehind (nI j) (lI (en x)) B n (lI x.2) = if en x < en L[j] then some 1 else if en L[j] = en x then if L[j].2 ≤ x.2 then some 0 else some 1 else some 0 := by
    unfold f_X2_isBehind
    rw [if_neg (nI_pos (by omega)), if_pos (nlt32 (show j < 32 by omega)), if_neg o, if_neg o, if_neg o, nI_clamp (by omega), e.2.1, e.2.2]
    simp only [lI_lt n1 n2, lI_eq n2 n1, lI_le p2 p1]
  rw [g]
  unfold elt
  constructor
  · intro c
    by_cases c1 : en x < en L[j]
    · rw [if_pos c1]
    · rw [if_neg c1, if_pos (by omega), if_neg (by omega)]
  · intro c
    rw [if_neg (by omega)]
    by_cases c2 : en L[j] = en x
    · rw [if_pos c2, if_pos (by omega)]
    · rw [if_neg c2]
theorem in_loop (N : Nat) (hs : srt L) (hx : eb x) (hL : ∀ y, y ∈ L → eb y) (hl : L.length < 32) : ∀ (j : Nat), j ≤ L.length → ∀ (f : Nat) (A B n : Nat → Int64), j < f → (∀ i (hi : i < L.length), i < j → A i = lI L[i].1 ∧ B i = lI L[i].2 ∧ n i = lI (en L[i])) → (∀ i (hi : i < L.length), j ≤ i → A (i + 1) = lI L[i].1 ∧ B (i + 1) = lI L[i].2 ∧ n (i + 1) = lI (en L[i])) → (∀ i (hi : i < L.length), j ≤ i → elt x L[i]) → ∃ (k : Nat) (A' B' n' : Nat → Int64), k ≤ L.length ∧ f_X2_insert_30 N f (lI (en x)) (nI j) (nI L.length) A B n (lI x.1) (lI x.2) = some (nI (L.length + 1), A', B', n') ∧ rpC (L.take k ++ x :: L.drop k) A' B' n' ∧ (∀ i (hi : i < L.length), k ≤ i → elt x L[i]) ∧ (∀ i (hi : i < L.length), i < k → ¬ elt x L[i]) := by
  have fin : ∀ (j : Nat) (A B n : Nat → Int64), j ≤ L.length → (∀ i (hi : i < L.length), i < j → A i = lI L[i].1 ∧ B i = lI L[i].2 ∧ n i = lI (en L[i])) → (∀ i (hi : i < L.length), j ≤ i → A (i + 1) = lI L[i].1 ∧ B (i + 1) = lI L[i].2 ∧ n (i + 1) = lI (en L[i])) → ∃ (A' B' n' : Nat → Int64), f_X2_insert_93 N (lI (en x)) (nI j) (nI L.length) A B n (lI x.1) (lI x.2) = some (nI (L.length + 1), A', B', n') ∧ rpC (L.take j ++ x :: L.drop j) A' B' n' := by
    intro j A B n hj h1 h2
    have o := nI_in (show j < 32 by omega) (by decide)
    refine ⟨_, _, _, by unfold f_X2_insert_93; rw [if_neg o, if_neg o, if_neg o, nI_clamp (by omega), nI_1], ?_⟩
    intro i hi
    obtain ⟨g1, g2, g3⟩ := ins_get L x hj i hi
    unfold vp_updL
    rcases Nat.lt_trichotomy i j with c | c | c
    · obtain ⟨h, e⟩ := g1 c
      rw [e, if_neg (by omega), if_neg (by omega), if_neg (by omega)]
      exact h1 i h c
    · rw [g2 c, if_pos c, if_pos c, if_pos c]
      exact ⟨rfl, rfl, rfl⟩
    · obtain ⟨h, e⟩ := g3 c
      rw [e, if_neg (by omega), if_neg (by omega), if_neg (by omega)]
      have := h2 (i - 1) h (by omega)
      rw [show i - 1 + 1 = i by omega] at this
      exact this
  intro j
  induction j with
  | zero =>
    intro hj f A B n hf h1 h2 h3
    obtain ⟨f, rfl⟩ : ∃ f', f = f' + 1 := ⟨f - 1, by omega⟩
    obtain ⟨A', B', n', e, h⟩ := fin 0 A B n hj h1 h2
    refine ⟨0, A', B', n', hj, ?_, h, h3, fun i hi c => absurd c (by omega)⟩
    rw [f_X2_insert_30, if_pos (show nI 0 ≤ 0 by decide)]
    exact e
  | succ j ih =>
    intro hj f A B n hf h1 h2 h3
    obtain ⟨f, rfl⟩ : ∃ f', f = f' + 1 := ⟨f - 1, by omega⟩
    have bh := bh_c (A := A) (B := B) (n := n) hx hL (show j < L.length by omega) hl (h1 j (by omega) (by omega))
    rw [f_X2_insert_30, if_neg (nI_nle (by omega) (by omega)), nI_pred]
    by_cases c : elt x L[j]
    · have o := nI_in (show j < 32 by omega) (by decide)
      have o' := nI_in (show j + 1 < 32 by omega) (by decide)
      have e1 : nI (j + 1) + (-1) = nI j := by rw [iI_nI, im1, iI_add, iI_nI]; congr 1; omega
      rw [bh.1 c, Option.bind_some, if_neg j1, if_neg o, if_neg o', if_neg o, if_neg o', if_neg o, if_neg o', nI_clamp (show j < 2 ^ 31 by omega), nI_clamp (show j + 1 < 2 ^ 31 by omega), e1]
      refine ih (by omega) f _ _ _ (by omega) ?_ ?_ ?_
      · intro i hi c2
        unfold vp_updL
        rw [if_neg (by omega), if_neg (by omega), if_neg (by omega)]
        exact h1 i hi (by omega)
      · intro i hi c2
        unfold vp_updL
        by_cases c3 : i = j
        · subst c3
          rw [if_pos rfl, if_pos rfl, if_pos rfl]
          exact h1 i hi (by omega)
        · rw [if_neg (by omega), if_neg (by omega), if_neg (by omega)]
          exact h2 i hi (by omega)
      · intro i hi c2
        by_cases c3 : i = j
        · subst c3; exact c
        · exact h3 i hi (by omega)
    · obtain ⟨A', B', n', e, h⟩ := fin (j + 1) A B n hj h1 h2
      rw [bh.2 c, Option.bind_some, if_pos rfl]
      refine ⟨j + 1, A', B', n', hj, e, h, h3, fun i hi c2 => ?_⟩
      by_cases c3 : i = j
      · subst c3; exact c
      · exact elt_le c (List.pairwise_iff_getElem.mp hs i j (by omega) (by omega) (by omega))
theorem s_insert {N : Nat} (hN : 1048576 ≤ N) (hs : srt L) (hx : eb x) (hL : ∀ y, y ∈ L → eb y) (hl : L.length < 32) {A B n : Nat → Int64} (h : rpC L A B n) : ∃ (L' : List (Int × Int)) (A' B' n' : Nat → Int64), f_X2_insert N (nI L.length) A B n (lI x.1) (lI x.2) = some (nI L'.length, A', B', n') ∧ rpC L' A' B' n' ∧ srt L' ∧ epr L' = em x (epr L) ∧ L'.length = L.length + 1 ∧ ∀ P : Int × Int → Prop, (∀ y, y ∈ L → P y) → P x → ∀ y, y ∈ L' → P y := by
  obtain ⟨k, A', B', n', hk, e, r, h1, h2⟩ := in_loop N hs hx hL hl L.length (Nat.le_refl _) N A B n (by omega) (fun i hi _ => h i hi) (fun i hi c => absurd hi (by omega)) (fun i hi c => absurd hi (by omega))
  refine ⟨L.take k ++ x :: L.drop k, A', B', n', ?_, r, ins_srt hs (fun j hj c => h1 j hj c) (fun j hj c => h2 j hj c), ins_epr L x k, ins_len L x hk, fun P p q => ins_mem p q⟩
  unfold f_X2_insert
  rw [if_neg (nI_pos (by omega)), if_pos (nlt32 hl), s_norm, Option.bind_some, ins_len L x hk]
  exact e
end INSC
section INSR
variable {L : List (Int × Int)} {x : Int × Int}
theorem no_loop (N : Nat) (hs : srt L) (hx : eb x) (hL : ∀ y, y ∈ L → eb y) (hl : L.length < 40) : ∀ (j : Nat), j ≤ L.length → ∀ (f : Nat) (A B n : Nat → Int32), j < f → (∀ i (hi : i < L.length), i < j → A i = iI L[i].1 ∧ B i = iI L[i].2 ∧ n i = iI (en L[i])) → (∀ i (hi : i < L.length), j ≤ i → A (i + 1) = iI L[i].1 ∧ B (i + 1) = iI L[i].2 ∧ n (i + 1) = iI (en L[i])) → (∀ i (hi : i < L.length), j ≤ i → elt x L[i]) → ∃ (k : Nat) (A' B' n' : Nat → Int32), k ≤ L.length ∧ f_X11_notes_14 N f (iI x.1) (iI x.2) (iI (en x)) (nI j) (nI L.length) A B n = some (nI (L.length + 1), A', B', n') ∧ rpR (L.take k ++ x :: L.drop k) A' B' n' ∧ (∀ i (hi : i < L.length), k ≤ i → elt x L[i]) ∧ (∀ i (hi : i < L.length), i < k → ¬ elt x L[i]) := by
  have fin : ∀ (j : Nat) (A B n : Nat → Int32), j ≤ L.length → (∀ i (hi : i < L.length), i < j → A i = iI L[i].1 ∧ B i = iI L[i].2 ∧ n i = iI (en L[i])) → (∀ i (hi : i < L.length), j ≤ i → A (i + 1) = iI L[i].1 ∧ B (i + 1) = iI L[i].2 ∧ n (i + 1) = iI (en L[i])) → ∃ (A' B' n' : Nat → Int32), f_X11_notes_115 N (iI x.1) (iI x.2) (iI (en x)) (nI j) (nI L.length) A B n = some (nI (L.length + 1), A', B', n') ∧ rpR (L.take j ++ x :: L.drop j) A' B' n' := by
    intro j A B n hj h1 h2
    have o := nI_in (show j < 40 by omega) (by decide)
    refine ⟨_, _, _, by unfold f_X11_notes_115; rw [if_neg o, if_neg o, if_neg o, nI_clamp (by omega), nI_1], ?_⟩
    intro i hi
    obtain ⟨g1, g2, g3⟩ := ins_get L x hj i hi
    unfold upd
    rcases Nat.lt_trichotomy i j with c | c | c
    · obtain ⟨h, e⟩ := g1 c
      rw [e, if_neg (by omega), if_neg (by omega), if_neg (by omega)]
      exact h1 i h c
    · rw [g2 c, if_pos c, if_pos c, if_pos c]
      exact ⟨rfl, rfl, rfl⟩
    · obtain ⟨h, e⟩ := g3 c
      rw [e, if_neg (by omega), if_neg (by omega), if_neg (by omega)]
      have := h2 (i - 1) h (by omega)
      rw [show i - 1 + 1 = i by omega] at this
      exact this
  intro j
  induction j with
  | zero =>
    intro hj f A B n hf h1 h2 h3
    obtain ⟨f, rfl⟩ : ∃ f', f = f' + 1 := ⟨f - 1, by omega⟩
    obtain ⟨A', B', n', e, h⟩ := fin 0 A B n hj h1 h2
    refine ⟨0, A', B', n', hj, ?_, h, h3, fun i hi c => absurd c (by omega)⟩
    rw [f_X11_notes_14, if_pos (show nI 0 ≤ 0 by decide)]
    exact e
  | succ j ih =>
    intro hj f A B n hf h1 h2 h3
    obtain ⟨f, rfl⟩ : ∃ f', f = f' + 1 := ⟨f - 1, by omega⟩
    have o := nI_in (show j < 40 by omega) (by decide)
    have ej := h1 j (by omega) (by omega)
    have m1 := hL L[j] (List.getElem_mem (by omega))
    have n1 := eb_n32 hx
    have n2 := eb_n32 m1
    have p1 := (eb_32 (a := x.1) (b := x.2) hx).2
    have p2 := (eb_32 (a := L[j].1) (b := L[j].2) m1).2
    rw [f_X11_notes_14, if_neg (nI_nle (by omega) (by omega)), nI_pred, if_neg o, if_neg o, if_neg o, nI_clamp (by omega), ej.2.1, ej.2.2]
    simp only [iI_lt n1 n2, iI_eq n2 n1, iI_le p2 p1]
    by_cases c : elt x L[j]
    · have sh : ∀ X Y : Option (Int32 × (Nat → Int32) × (Nat → Int32) × (Nat → Int32)), (if en x < en L[j] then X else if en L[j] = en x then if L[j].2 ≤ x.2 then Y else X else Y) = X := by
        intro X Y
        unfold elt at c
        by_cases c1 : en x < en L[j]
        · rw [if_pos c1]
        · rw [if_neg c1, if_pos (by omega), if_neg (by omega)]
      rw [sh]
      have o' := nI_in (show j + 1 < 40 by omega) (by decide)
      unfold f_X11_notes_58
      rw [nI_pred, if_neg o, if_neg o', if_neg o, if_neg o', if_neg o, if_neg o', nI_clamp (show j < 2 ^ 31 by omega), nI_clamp (show j + 1 < 2 ^ 31 by omega)]
      refine ih (by omega) f _ _ _ (by omega) ?_ ?_ ?_
      · intro i hi c2
        unfold upd
        rw [if_neg (by omega), if_neg (by omega), if_neg (by omega)]
        exact h1 i hi (by omega)
      · intro i hi c2
        unfold upd
        by_cases c3 : i = j
        · subst c3
          rw [if_pos rfl, if_pos rfl, if_pos rfl]
          exact h1 i hi (by omega)
        · rw [if_neg (by omega), if_neg (by omega), if_neg (by omega)]
          exact h2 i hi (by omega)
      · intro i hi c2
        by_cases c3 : i = j
        · subst c3; exact c
        · exact h3 i hi (by omega)
    · have sh : ∀ X Y : Option (Int32 × (Nat → Int32) × (Nat → Int32) × (Nat → Int32)), (if en x < en L[j] then X else if en L[j] = en x then if L[j].2 ≤ x.2 then Y else X else Y) = Y := by
        intro X Y
        unfold elt at c
        rw [if_neg (by omega)]
        by_cases c2 : en L[j] = en x
        · rw [if_pos c2, if_pos (by omega)]
        · rw [if_neg c2]
      rw [sh]
      obtain ⟨A', B', n', e, h⟩ := fin (j + 1) A B n hj h1 h2
      refine ⟨j + 1, A', B', n', hj, e, h, h3, fun i hi c2 => ?_⟩
      by_cases c3 : i = j
      · subst c3; exact c
      · exact elt_le c (List.pairwise_iff_getElem.mp hs i j (by omega) (by omega) (by omega))
theorem s_notes {N : Nat} (hN : 1048576 ≤ N) (hs : srt L) (hx : eb x) (hL : ∀ y, y ∈ L → eb y) (hl : L.length < 40) {A B n : Nat → Int32} (h : rpR L A B n) : ∃ (L' : List (Int × Int)) (A' B' n' : Nat → Int32), f_X11_notes N (iI x.1) (iI x.2) (nI L.length) A B n = some (nI L'.length, A', B', n') ∧ rpR L' A' B' n' ∧ srt L' ∧ epr L' = em x (epr L) ∧ L'.length = L.length + 1 ∧ ∀ P : Int × Int → Prop, (∀ y, y ∈ L → P y) → P x → ∀ y, y ∈ L' → P y := by
  obtain ⟨k, A', B', n', hk, e, r, h1, h2⟩ := no_loop N hs hx hL hl L.length (Nat.le_refl _) N A B n (by omega) (fun i hi _ => h i hi) (fun i hi c => absurd hi (by omega)) (fun i hi c => absurd hi (by omega))
  refine ⟨L.take k ++ x :: L.drop k, A', B', n', ?_, r, ins_srt hs (fun j hj c => h1 j hj c) (fun j hj c => h2 j hj c), ins_epr L x k, ins_len L x hk, fun P p q => ins_mem p q⟩
  have b := eb_32 (a := x.1) (b := x.2) hx
  unfold f_X11_notes
  rw [iI_l b.1, iI_l b.2, s_normOf, Option.bind_some, ins_len L x hk]
  exact e
end INSR
