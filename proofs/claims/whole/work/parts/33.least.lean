/-! ===== least ===== -/
def lt3 (p q : Int × Int) : Bool := decide (en p < en q ∨ (en p = en q ∧ (p.1 < q.1 ∨ (p.1 = q.1 ∧ p.2 < q.2))))
theorem lt3_iff {p q : Int × Int} : lt3 p q = true ↔ (en p < en q ∨ (en p = en q ∧ (p.1 < q.1 ∨ (p.1 = q.1 ∧ p.2 < q.2)))) := decide_eq_true_iff
theorem lt3_total {p q : Int × Int} (h1 : ¬ lt3 p q = true) (h2 : ¬ lt3 q p = true) : p = q := by
  have h1' : ¬ (en p < en q ∨ (en p = en q ∧ (p.1 < q.1 ∨ (p.1 = q.1 ∧ p.2 < q.2)))) := fun z => h1 (lt3_iff.mpr z)
  have h2' : ¬ (en q < en p ∨ (en q = en p ∧ (q.1 < p.1 ∨ (q.1 = p.1 ∧ q.2 < p.2)))) := fun z => h2 (lt3_iff.mpr z)
  exact e_ext (by omega) (by omega)
theorem lt3_tr {p q r : Int × Int} (h1 : ¬ lt3 p q = true) (h2 : ¬ lt3 q r = true) : ¬ lt3 p r = true := by
  have h1' : ¬ (en p < en q ∨ (en p = en q ∧ (p.1 < q.1 ∨ (p.1 = q.1 ∧ p.2 < q.2)))) := fun z => h1 (lt3_iff.mpr z)
  have h2' : ¬ (en q < en r ∨ (en q = en r ∧ (q.1 < r.1 ∨ (q.1 = r.1 ∧ q.2 < r.2)))) := fun z => h2 (lt3_iff.mpr z)
  intro z
  have := lt3_iff.mp z
  omega
theorem lt3_irr (p : Int × Int) : ¬ lt3 p p = true := by
  intro z
  have := lt3_iff.mp z
  omega
theorem lt3_asym {p q : Int × Int} (h : lt3 p q = true) : ¬ lt3 q p = true := by
  intro z
  have h1 := lt3_iff.mp h
  have h2 := lt3_iff.mp z
  omega
def mn3 (p c : Int × Int) : Int × Int := if lt3 c p then c else p
def fmin (p : Int × Int) : List (Int × Int) → Int × Int
  | [] => p
  | c :: cs => fmin (mn3 p c) cs
theorem fmin_app (p : Int × Int) : ∀ (L M : List (Int × Int)), fmin p (L ++ M) = fmin (fmin p L) M := by
  intro L
  induction L generalizing p with
  | nil => intro M; rfl
  | cons c cs ih => intro M; exact ih (mn3 p c) M
theorem fmin_spec : ∀ (L : List (Int × Int)) (p : Int × Int), (fmin p L = p ∨ fmin p L ∈ L) ∧ (¬ lt3 p (fmin p L) = true) ∧ ∀ c ∈ L, ¬ lt3 c (fmin p L) = true := by
  intro L
  induction L with
  | nil => intro p; exact ⟨Or.inl rfl, lt3_irr p, fun c h => absurd h List.not_mem_nil⟩
  | cons c cs ih =>
    intro p
    obtain ⟨h1, h2, h3⟩ := ih (mn3 p c)
    have e : fmin p (c :: cs) = fmin (mn3 p c) cs := rfl
    rw [e]
    by_cases d : lt3 c p = true
    · have em' : mn3 p c = c := by unfold mn3; rw [if_pos d]
      rw [em'] at h1 h2 h3 ⊢
      refine ⟨?_, lt3_tr (lt3_asym d) h2, ?_⟩
      · rcases h1 with h1 | h1
        · right; rw [h1]; exact List.mem_cons_self
        · right; exact List.mem_cons_of_mem _ h1
      · intro q hq
        rcases List.mem_cons.mp hq with rfl | hq
        · exact h2
        · exact h3 q hq
    · have em' : mn3 p c = p := by unfold mn3; rw [if_neg d]
      rw [em'] at h1 h2 h3 ⊢
      refine ⟨?_, h2, ?_⟩
      · rcases h1 with h1 | h1
        · left; exact h1
        · right; exact List.mem_cons_of_mem _ h1
      · intro q hq
        rcases List.mem_cons.mp hq with rfl | hq
        · exact lt3_tr d h2
        · exact h3 q hq
def sm6 (p : Int × Int) : Prop := (-1000000 ≤ p.1 ∧ p.1 ≤ 1000000) ∧ (-1000000 ≤ p.2 ∧ p.2 ≤ 1000000)
theorem sm6_b {p : Int × Int} (h : sm6 p) : b64 p.1 ∧ b64 p.2 ∧ b64 (nrm p.1 p.2) := by
  obtain ⟨⟨h1, h2⟩, h3, h4⟩ := h
  have n0 := nrm_nn p.1 p.2
  have n1 := nrm_le (M := 1000000) h1 h2 h3 h4
  exact ⟨⟨by omega, by omega⟩, ⟨by omega, by omega⟩, ⟨by omega, by omega⟩⟩
theorem s_less {p q : Int × Int} (hp : sm6 p) (hq : sm6 q) : f_X5_isLessThan (lI p.1) (lI p.2) (lI q.1) (lI q.2) = some (if lt3 p q then 1 else 0) := by
  obtain ⟨p1, p2, p3⟩ := sm6_b hp
  obtain ⟨q1, q2, q3⟩ := sm6_b hq
  have en1 : en p = nrm p.1 p.2 := rfl
  have en2 : en q = nrm q.1 q.2 := rfl
  have LT := @lt3_iff p q
  rw [en1, en2] at LT
  unfold f_X5_isLessThan
  simp only [s_norm, Option.bind_some, lI_eq p3 q3, lI_eq p1 q1, lI_le q2 p2, lI_le q1 p1, lI_le q3 p3]
  by_cases c1 : nrm p.1 p.2 = nrm q.1 q.2
  · rw [if_pos c1]
    by_cases c2 : p.1 = q.1
    · rw [if_pos c2]
      by_cases c3 : q.2 ≤ p.2
      · rw [if_pos c3, if_neg (fun z => by have := LT.mp z; omega)]
      · rw [if_neg c3, if_pos (LT.mpr (by omega))]
    · rw [if_neg c2]
      by_cases c3 : q.1 ≤ p.1
      · rw [if_pos c3, if_neg (fun z => by have := LT.mp z; omega)]
      · rw [if_neg c3, if_pos (LT.mpr (by omega))]
  · rw [if_neg c1]
    by_cases c3 : nrm q.1 q.2 ≤ nrm p.1 p.2
    · rw [if_pos c3, if_neg (fun z => by have := LT.mp z; omega)]
    · rw [if_neg c3, if_pos (LT.mpr (by omega))]
theorem mn3_sm {p c : Int × Int} (hp : sm6 p) (hc : sm6 c) : sm6 (mn3 p c) := by
  unfold mn3
  split
  · exact hc
  · exact hp
theorem eit_sm {m : Int × Int} (hm : eb m) (u : Nat) : (-20000 ≤ (eit u m).1 ∧ (eit u m).1 ≤ 20000) ∧ (-20000 ≤ (eit u m).2 ∧ (eit u m).2 ≤ 20000) := by
  apply eb_bd
  show en (eit u m) ≤ 300000000
  rw [en_eit]; exact hm
def lsC (m r : Int × Int) (u : Nat) : Int × Int := ead (eit u m) r
def lsR (m r : Int × Int) (i j : Int) : Int × Int := ead r (em m (i, j))
theorem la_loop {N : Nat} (hN : 1048576 ≤ N) {m r : Int × Int} (hm : eb m) (hr : eb r) : ∀ (n u : Nat), u + n = 6 → ∀ (k : Nat) (p : Int × Int) (sa sb : Int64), n < k → sm6 p → ∃ ta tb : Int64, f_X10_leastAround_13 N k (nI u) (lI m.1) (lI m.2) (lI p.1) (lI p.2) (lI r.1) (lI r.2) sa sb = some (lI (fmin p ((List.range' u n).map (lsC m r))).1, lI (fmin p ((List.range' u n).map (lsC m r))).2, ta, tb) := by
  have hr' := eb_bd (a := r.1) (b := r.2) hr
  intro n
  induction n with
  | zero =>
    intro u hu k p sa sb hk hp
    obtain rfl : u = 6 := by omega
    obtain ⟨k, rfl⟩ : ∃ k', k = k' + 1 := ⟨k - 1, by omega⟩
    rw [f_X10_leastAround_13, if_pos (by decide)]
    exact ⟨sa, sb, rfl⟩
  | succ n ih =>
    intro u hu k p sa sb hk hp
    obtain ⟨k, rfl⟩ : ∃ k', k = k' + 1 := ⟨k - 1, by omega⟩
    have hu6 : u ≤ 6 := by omega
    have em' := eit_sm hm u
    have hc : sm6 (lsC m r u) := by unfold sm6 lsC ead; exact ⟨⟨by simp only []; omega, by simp only []; omega⟩, ⟨by simp only []; omega, by simp only []; omega⟩⟩
    rw [f_X10_leastAround_13, if_neg (show ¬ (6 : Int32) ≤ nI u from nI_ge (b := 6) (by omega) (by decide))]
    unfold f_X5_copy f_X5_add
    rw [Option.bind_some, s_mbu hN m.1 m.2 hu6, Option.bind_some, Option.bind_some, lI_add, lI_add]
    have hl := s_less hc hp
    have hl' : f_X5_isLessThan (lI ((eit u (m.1, m.2)).1 + r.1)) (lI ((eit u (m.1, m.2)).2 + r.2)) (lI p.1) (lI p.2) = _ := hl
    rw [hl', Option.bind_some, nI_1]
    have I := fun (p : Int × Int) (hp : sm6 p) (sa sb : Int64) => ih (u + 1) (by omega) k p sa sb (by omega) hp
    have e : fmin p ((List.range' u (n + 1)).map (lsC m r)) = fmin (mn3 p (lsC m r u)) ((List.range' (u + 1) n).map (lsC m r)) := rfl
    rw [e]
    by_cases c : lt3 (lsC m r u) p = true
    · have em2 : mn3 p (lsC m r u) = lsC m r u := by unfold mn3; rw [if_pos c]
      rw [if_pos c, if_neg j1, em2, Option.bind_some]
      exact I (lsC m r u) hc _ _
    · have em2 : mn3 p (lsC m r u) = p := by unfold mn3; rw [if_neg c]
      rw [if_neg c, if_pos rfl, em2]
      exact I p hp _ _
theorem lsR_sm {m r : Int × Int} (hm : eb m) (hr : eb r) {i j : Int} (hi : -2 ≤ i ∧ i ≤ 2) (hj : -2 ≤ j ∧ j ≤ 2) : sm6 (lsR m r i j) ∧ sm6 (em m (i, j)) := by
  have hm' := eb_bd (a := m.1) (b := m.2) hm
  have hr' := eb_bd (a := r.1) (b := r.2) hr
  have q1 := mul_bd hm'.1.1 hm'.1.2 hi.1 hi.2
  have q2 := mul_bd hm'.2.1 hm'.2.2 hj.1 hj.2
  have q3 := mul_bd hm'.1.1 hm'.1.2 hj.1 hj.2
  have q4 := mul_bd hm'.2.1 hm'.2.2 hi.1 hi.2
  unfold sm6 lsR ead em
  simp only []
  omega
theorem ls_in {N : Nat} {m r : Int × Int} (hm : eb m) (hr : eb r) (k95 : Int32 → Int64 → Int64 → Int64 → Int64 → Int64 → Int64 → Int32 → Int64 → Int64 → Option (Int32 × Int64 × Int64)) (v3 : Int32) {i : Int} (hi : -2 ≤ i ∧ i ≤ 2) : ∀ (n t : Nat), t + n = 5 → ∀ (k : Nat) (p : Int × Int) (ra rb : Int64), n < k → sm6 p → ∃ ra' rb' : Int64, f_X11_least_105 N k95 k v3 (lI m.1) (lI m.2) (lI r.1) (lI r.2) (lI p.1) (lI p.2) (iI i) (iI ((t : Int) - 2)) ra rb = k95 v3 (lI m.1) (lI m.2) (lI r.1) (lI r.2) (lI (fmin p ((List.range' t n).map (fun (t : Nat) => lsR m r i ((t : Int) - 2)))).1) (lI (fmin p ((List.range' t n).map (fun (t : Nat) => lsR m r i ((t : Int) - 2)))).2) (iI (i + 1)) ra' rb' := by
  intro n
  induction n with
  | zero =>
    intro t ht k p ra rb hk hp
    obtain rfl : t = 5 := by omega
    obtain ⟨k, rfl⟩ : ∃ k', k = k' + 1 := ⟨k - 1, by omega⟩
    rw [f_X11_least_105, if_pos (by decide), i1, iI_add]
    exact ⟨ra, rb, rfl⟩
  | succ n ih =>
    intro t ht k p ra rb hk hp
    obtain ⟨k, rfl⟩ : ∃ k', k = k' + 1 := ⟨k - 1, by omega⟩
    have hj : -2 ≤ ((t : Int) - 2) ∧ ((t : Int) - 2) ≤ 2 := ⟨by omega, by omega⟩
    obtain ⟨hc, hc2⟩ := lsR_sm hm hr hi hj
    obtain ⟨c1, c2, c3⟩ := sm6_b hc
    obtain ⟨p1, p2, p3⟩ := sm6_b hp
    have bi : (iI i).toInt64 = lI i := iI_l ⟨by omega, by omega⟩
    have bj : (iI ((t : Int) - 2)).toInt64 = lI ((t : Int) - 2) := iI_l ⟨by omega, by omega⟩
    have ej : iI ((t : Int) - 2) + 1 = iI (((t + 1 : Nat) : Int) - 2) := by rw [i1, iI_add]; congr 1; omega
    have I := fun (p : Int × Int) (hp : sm6 p) (ra rb : Int64) => ih (t + 1) (by omega) k p ra rb (by omega) hp
    have e : fmin p ((List.range' t (n + 1)).map (fun (t : Nat) => lsR m r i ((t : Int) - 2))) = fmin (mn3 p (lsR m r i ((t : Int) - 2))) ((List.range' (t + 1) n).map (fun (t : Nat) => lsR m r i ((t : Int) - 2))) := rfl
    have e1 : lI r.1 + lI (em m (i, (t : Int) - 2)).1 = lI (lsR m r i ((t : Int) - 2)).1 := by rw [lI_add]; rfl
    have e2 : lI r.2 + lI (em m (i, (t : Int) - 2)).2 = lI (lsR m r i ((t : Int) - 2)).2 := by rw [lI_add]; rfl
    have st : f_X11_times (lI m.1) (lI m.2) (lI i) (lI ((t : Int) - 2)) = some (lI (em m (i, (t : Int) - 2)).1, lI (em m (i, (t : Int) - 2)).2) := s_times m.1 m.2 i ((t : Int) - 2)
    have en1 : en (lsR m r i ((t : Int) - 2)) = nrm (lsR m r i ((t : Int) - 2)).1 (lsR m r i ((t : Int) - 2)).2 := rfl
    have en2 : en p = nrm p.1 p.2 := rfl
    have LT := @lt3_iff (lsR m r i ((t : Int) - 2)) p
    rw [en1, en2] at LT
    rw [f_X11_least_105, if_neg (by show ¬ iI 3 ≤ iI ((t : Int) - 2); rw [iI_le ⟨by decide, by decide⟩ ⟨by omega, by omega⟩]; omega), bi, bj, st, Option.bind_some, e1, e2, s_normX, Option.bind_some, s_normX, Option.bind_some, ej, e]
    simp only [lI_lt p3 c3, lI_eq c3 p3, lI_lt p1 c1, lI_eq c1 p1, lI_lt c2 p2]
    by_cases c : lt3 (lsR m r i ((t : Int) - 2)) p = true
    · have em2 : mn3 p (lsR m r i ((t : Int) - 2)) = lsR m r i ((t : Int) - 2) := by unfold mn3; rw [if_pos c]
      have cc := LT.mp c
      rw [em2]
      have J := I (lsR m r i ((t : Int) - 2)) hc (lI (em m (i, (t : Int) - 2)).1) (lI (em m (i, (t : Int) - 2)).2)
      rw [if_neg (by omega)]
      by_cases d1 : nrm (lsR m r i ((t : Int) - 2)).1 (lsR m r i ((t : Int) - 2)).2 = nrm p.1 p.2
      · rw [if_pos d1, if_neg (by omega)]
        by_cases d2 : (lsR m r i ((t : Int) - 2)).1 = p.1
        · rw [if_pos d2, if_pos (by omega)]; exact J
        · rw [if_neg d2]; exact J
      · rw [if_neg d1]; exact J
    · have em2 : mn3 p (lsR m r i ((t : Int) - 2)) = p := by unfold mn3; rw [if_neg c]
      have cc := fun z => c (LT.mpr z)
      rw [em2]
      have J := I p hp (lI (em m (i, (t : Int) - 2)).1) (lI (em m (i, (t : Int) - 2)).2)
      by_cases d0 : nrm p.1 p.2 < nrm (lsR m r i ((t : Int) - 2)).1 (lsR m r i ((t : Int) - 2)).2
      · rw [if_pos d0]; exact J
      · rw [if_neg d0]
        have d1 : nrm (lsR m r i ((t : Int) - 2)).1 (lsR m r i ((t : Int) - 2)).2 = nrm p.1 p.2 := by
          by_cases z : nrm (lsR m r i ((t : Int) - 2)).1 (lsR m r i ((t : Int) - 2)).2 < nrm p.1 p.2
          · exact absurd (Or.inl z) cc
          · omega
        rw [if_pos d1]
        by_cases d2 : p.1 < (lsR m r i ((t : Int) - 2)).1
        · rw [if_pos d2]; exact J
        · rw [if_neg d2]
          have d3 : (lsR m r i ((t : Int) - 2)).1 = p.1 := by
            by_cases z : (lsR m r i ((t : Int) - 2)).1 < p.1
            · exact absurd (Or.inr ⟨d1, Or.inl z⟩) cc
            · omega
          rw [if_pos d3]
          by_cases d4 : (lsR m r i ((t : Int) - 2)).2 < p.2
          · exact absurd (Or.inr ⟨d1, Or.inr ⟨d3, d4⟩⟩) cc
          · rw [if_neg d4]; exact J
theorem fmin_sm {p : Int × Int} : ∀ (L : List (Int × Int)), sm6 p → (∀ c ∈ L, sm6 c) → sm6 (fmin p L) := by
  intro L hp hL
  rcases (fmin_spec L p).1 with h | h
  · rw [h]; exact hp
  · exact hL _ h
def lsRow (m r : Int × Int) (s : Nat) : List (Int × Int) := (List.range' 0 5).map (fun (t : Nat) => lsR m r ((s : Int) - 2) ((t : Int) - 2))
theorem ls_out {N : Nat} (hN : 1048576 ≤ N) {m r : Int × Int} (hm : eb m) (hr : eb r) (v3 : Int32) : ∀ (n s : Nat), s + n = 5 → ∀ (k : Nat) (p : Int × Int) (ra rb : Int64), n < k → sm6 p → ∃ ra' rb' : Int64, f_X11_least_95 N k v3 (lI m.1) (lI m.2) (lI r.1) (lI r.2) (lI p.1) (lI p.2) (iI ((s : Int) - 2)) ra rb = (if v3 = 0 then some ((lI (fmin p ((List.range' s n).flatMap (lsRow m r))).1).toInt32, ra', rb') else some ((lI (fmin p ((List.range' s n).flatMap (lsRow m r))).2).toInt32, ra', rb')) := by
  intro n
  induction n with
  | zero =>
    intro s hs k p ra rb hk hp
    obtain rfl : s = 5 := by omega
    obtain ⟨k, rfl⟩ : ∃ k', k = k' + 1 := ⟨k - 1, by omega⟩
    rw [f_X11_least_95, if_pos (by decide)]
    exact ⟨ra, rb, rfl⟩
  | succ n ih =>
    intro s hs k p ra rb hk hp
    obtain ⟨k, rfl⟩ : ∃ k', k = k' + 1 := ⟨k - 1, by omega⟩
    have hi : -2 ≤ ((s : Int) - 2) ∧ ((s : Int) - 2) ≤ 2 := ⟨by omega, by omega⟩
    obtain ⟨ra', rb', e⟩ := ls_in (N := N) hm hr (f_X11_least_95 N k) v3 hi 5 0 rfl N p ra rb (by omega) hp
    have ei : (s : Int) - 2 + 1 = ((s + 1 : Nat) : Int) - 2 := by omega
    have e' : f_X11_least_105 N (f_X11_least_95 N k) N v3 (lI m.1) (lI m.2) (lI r.1) (lI r.2) (lI p.1) (lI p.2) (iI ((s : Int) - 2)) (-2) ra rb = _ := e
    rw [f_X11_least_95, if_neg (by show ¬ iI 3 ≤ iI ((s : Int) - 2); rw [iI_le ⟨by decide, by decide⟩ ⟨by omega, by omega⟩]; omega), e', ei]
    have hp' : sm6 (fmin p (lsRow m r s)) := by
      apply fmin_sm _ hp
      intro c hc
      obtain ⟨t, ht, rfl⟩ := List.mem_map.mp hc
      have := List.mem_range'_1.mp ht
      exact (lsR_sm hm hr hi ⟨by omega, by omega⟩).1
    have ef : (List.range' s (n + 1)).flatMap (lsRow m r) = lsRow m r s ++ (List.range' (s + 1) n).flatMap (lsRow m r) := rfl
    rw [ef, fmin_app]
    exact ih (s + 1) (by omega) k _ ra' rb' (by omega) hp'
/-- beyond the six around it there is none so small -/
theorem far_lt {x m : Int × Int} (hm : m ≠ (0, 0)) {i j : Int} (h : 0 < (em (er x m) (ec m)).1 * (2 * i - j) + (em (er x m) (ec m)).2 * (2 * j - i) + en m * (i * i - i * j + j * j)) : en (er x m) < en (lsR m (er x m) i j) := by
  have hp := en_pos hm
  have e1 : en (em (er x m) (ec m)) = en (er x m) * en m := by rw [en_em, en_ec]
  have e2 : en (em (lsR m (er x m) i j) (ec m)) = en (lsR m (er x m) i j) * en m := by rw [en_em, en_ec]
  have e3 : em (lsR m (er x m) i j) (ec m) = ((em (er x m) (ec m)).1 + i * en m, (em (er x m) (ec m)).2 + j * en m) := by
    unfold lsR
    rw [em_comm, em_add, em_comm (ec m) (er x m), em_comm m (i, j), em_comm (ec m) (em (i, j) m), em_assoc (i, j), em_ec]
    generalize em (er x m) (ec m) = p
    unfold ead em
    exact e_ext (by simp only []; omega) (by simp only []; omega)
  rw [e3] at e2
  have e4 : en ((em (er x m) (ec m)).1 + i * en m, (em (er x m) (ec m)).2 + j * en m) = en (em (er x m) (ec m)) + en m * ((em (er x m) (ec m)).1 * (2 * i - j) + (em (er x m) (ec m)).2 * (2 * j - i) + en m * (i * i - i * j + j * j)) := by
    generalize em (er x m) (ec m) = p
    generalize en m = q
    simp only [en, nrm]; grind
  rw [e4, e1] at e2
  have k := Int.mul_pos (show 0 < en m by omega) h
  have : en (er x m) * en m < en (lsR m (er x m) i j) * en m := by omega
  exact Int.lt_of_mul_lt_mul_right this (by omega)
theorem er_pq {x m : Int × Int} (hm : m ≠ (0, 0)) : (-en m ≤ 2 * (em (er x m) (ec m)).1 ∧ 2 * (em (er x m) (ec m)).1 < en m) ∧ (-en m ≤ 2 * (em (er x m) (ec m)).2 ∧ 2 * (em (er x m) (ec m)).2 < en m) := by
  have hp := en_pos hm
  have e : em (er x m) (ec m) = ((em x (ec m)).1 - (eq_ x m).1 * en m, (em x (ec m)).2 - (eq_ x m).2 * en m) := by
    unfold er
    rw [em_comm, em_sub, em_comm (ec m) (em (eq_ x m) m), em_assoc, em_ec, em_comm (ec m) x]
    apply e_ext <;> simp only [esb, em] <;> grind
  rw [e]
  have h1 := rnd_bd (v := (em x (ec m)).1) (m := en m) (by omega)
  have h2 := rnd_bd (v := (em x (ec m)).2) (m := en m) (by omega)
  exact ⟨h1, h2⟩
theorem ls_same {x m : Int × Int} (hm : m ≠ (0, 0)) : fmin (er x m) ((List.range' 0 6).map (lsC m (er x m))) = fmin (er x m) ((List.range' 0 5).flatMap (lsRow m (er x m))) := by
  obtain ⟨a1, a2, a3⟩ := fmin_spec ((List.range' 0 6).map (lsC m (er x m))) (er x m)
  obtain ⟨b1, b2, b3⟩ := fmin_spec ((List.range' 0 5).flatMap (lsRow m (er x m))) (er x m)
  have inR : ∀ s t : Nat, s < 5 → t < 5 → lsR m (er x m) ((s : Int) - 2) ((t : Int) - 2) ∈ (List.range' 0 5).flatMap (lsRow m (er x m)) := by
    intro s t hs ht
    exact List.mem_flatMap.mpr ⟨s, List.mem_range'_1.mpr ⟨by omega, by omega⟩, List.mem_map.mpr ⟨t, List.mem_range'_1.mpr ⟨by omega, by omega⟩, rfl⟩⟩
  have uC : ∀ u : Nat, u < 6 → ∃ i j : Int, eit u m = em m (i, j) ∧ ∃ s t : Nat, s < 5 ∧ t < 5 ∧ i = (s : Int) - 2 ∧ j = (t : Int) - 2 := by
    intro u hu
    have e := eit_em u m
    have : u = 0 ∨ u = 1 ∨ u = 2 ∨ u = 3 ∨ u = 4 ∨ u = 5 := by omega
    rcases this with rfl | rfl | rfl | rfl | rfl | rfl
    · exact ⟨1, 0, e, 3, 2, by decide, by decide, by decide, by decide⟩
    · exact ⟨1, 1, e, 3, 3, by decide, by decide, by decide, by decide⟩
    · exact ⟨0, 1, e, 2, 3, by decide, by decide, by decide, by decide⟩
    · exact ⟨-1, 0, e.trans (congrArg (em m) (by decide)), 1, 2, by decide, by decide, by decide, by decide⟩
    · exact ⟨-1, -1, e.trans (congrArg (em m) (by decide)), 1, 1, by decide, by decide, by decide, by decide⟩
    · exact ⟨0, -1, e.trans (congrArg (em m) (by decide)), 2, 1, by decide, by decide, by decide, by decide⟩
  have adc : ∀ p q : Int × Int, ead p q = ead q p := by
    intro p q; unfold ead; exact e_ext (Int.add_comm _ _) (Int.add_comm _ _)
  -- the class's is no smaller than the reference's
  have h1 : ¬ lt3 (fmin (er x m) ((List.range' 0 6).map (lsC m (er x m)))) (fmin (er x m) ((List.range' 0 5).flatMap (lsRow m (er x m)))) = true := by
    rcases a1 with h | h
    · rw [h]; exact b2
    · obtain ⟨u, hu, e⟩ := List.mem_map.mp h
      obtain ⟨i, j, e1, s, t, hs, ht, rfl, rfl⟩ := uC u (by have := List.mem_range'_1.mp hu; omega)
      have e2 : lsC m (er x m) u = lsR m (er x m) ((s : Int) - 2) ((t : Int) - 2) := by
        unfold lsC lsR; rw [e1, adc]
      rw [← e, e2]
      exact b3 _ (inR s t hs ht)
  have inC : ∀ u : Nat, u < 6 → ∀ i j : Int, eit u m = em m (i, j) → ¬ lt3 (lsR m (er x m) i j) (fmin (er x m) ((List.range' 0 6).map (lsC m (er x m)))) = true := by
    intro u hu i j e
    have e2 : lsC m (er x m) u = lsR m (er x m) i j := by unfold lsC lsR; rw [e, adc]
    rw [← e2]
    exact a3 _ (List.mem_map.mpr ⟨u, List.mem_range'_1.mpr ⟨by omega, by omega⟩, rfl⟩)
  obtain ⟨⟨p1, p2⟩, q1, q2⟩ := er_pq (x := x) hm
  have hp := en_pos hm
  have far : ∀ i j : Int, 0 < (em (er x m) (ec m)).1 * (2 * i - j) + (em (er x m) (ec m)).2 * (2 * j - i) + en m * (i * i - i * j + j * j) → lsR m (er x m) i j = fmin (er x m) ((List.range' 0 5).flatMap (lsRow m (er x m))) → False := by
    intro i j h e
    have := far_lt hm h
    apply b2
    rw [← e]
    exact lt3_iff.mpr (Or.inl this)
  have h2 : ¬ lt3 (fmin (er x m) ((List.range' 0 5).flatMap (lsRow m (er x m)))) (fmin (er x m) ((List.range' 0 6).map (lsC m (er x m)))) = true := by
    rcases b1 with h | h
    · rw [h]; exact a2
    · obtain ⟨s, hs, h'⟩ := List.mem_flatMap.mp h
      obtain ⟨t, ht, e⟩ := List.mem_map.mp h'
      have hs' := List.mem_range'_1.mp hs
      have ht' := List.mem_range'_1.mp ht
      rw [← e]
      have fr := fun hh => far ((s : Int) - 2) ((t : Int) - 2) hh e
      have ic := fun u hu ee => inC u hu ((s : Int) - 2) ((t : Int) - 2) ee
      have e0 := fun u => eit_em u m
      have ez : lsR m (er x m) 0 0 = er x m := by
        unfold lsR; rw [em_zero]; unfold ead; exact e_ext (Int.add_zero _) (Int.add_zero _)
      generalize em (er x m) (ec m) = P at *
      generalize en m = Q at *
      have s5 : s = 0 ∨ s = 1 ∨ s = 2 ∨ s = 3 ∨ s = 4 := by omega
      have t5 : t = 0 ∨ t = 1 ∨ t = 2 ∨ t = 3 ∨ t = 4 := by omega
      rcases s5 with rfl | rfl | rfl | rfl | rfl
      · rcases t5 with rfl | rfl | rfl | rfl | rfl <;> exact absurd (fr (by omega)) (fun z => z)
      · rcases t5 with rfl | rfl | rfl | rfl | rfl
        · exact absurd (fr (by omega)) (fun z => z)
        · exact ic 4 (by decide) (e0 4)
        · exact ic 3 (by decide) (e0 3)
        · exact absurd (fr (by omega)) (fun z => z)
        · exact absurd (fr (by omega)) (fun z => z)
      · rcases t5 with rfl | rfl | rfl | rfl | rfl
        · exact absurd (fr (by omega)) (fun z => z)
        · exact ic 5 (by decide) (e0 5)
        · have e3 : lsR m (er x m) (((2 : Nat) : Int) - 2) (((2 : Nat) : Int) - 2) = er x m := ez
          rw [e3]; exact a2
        · exact ic 2 (by decide) (e0 2)
        · exact absurd (fr (by omega)) (fun z => z)
      · rcases t5 with rfl | rfl | rfl | rfl | rfl
        · exact absurd (fr (by omega)) (fun z => z)
        · exact absurd (fr (by omega)) (fun z => z)
        · exact ic 0 (by decide) (e0 0)
        · exact ic 1 (by decide) (e0 1)
        · exact absurd (fr (by omega)) (fun z => z)
      · rcases t5 with rfl | rfl | rfl | rfl | rfl <;> exact absurd (fr (by omega)) (fun z => z)
  exact lt3_total h1 h2
theorem s_reckon4 (N : Nat) (cn : Int32) (l1 l2 l3 l4 l5 l6 n1 n2 n3 n4 n5 n6 qa qb : Int64) (QA QB : Nat → Int64) {a b c d : Int} (hx : eb (a, b)) (hy : eb (c, d)) (h0 : (c, d) ≠ (0, 0)) (sa sb : Int64) : ∃ s t : Int64, f_X10_reckon N 4 cn l1 l2 l3 l4 l5 l6 n1 n2 n3 n4 n5 n6 qa qb QA QB (lI a) (lI b) (lI c) (lI d) sa sb = some (cn, l1, l2, l3, l4, l5, l6, n1, n2, n3, n4, n5, n6, qa, qb, QA, QB, lI (er (a, b) (c, d)).1, lI (er (a, b) (c, d)).2, s, t) := by
  obtain ⟨s, t, m1, m2⟩ := s_rest_c hx hy h0
  refine ⟨s, t, ?_⟩
  unfold f_X10_reckon f_X5_copy
  rw [Option.bind_some, if_neg (by decide), if_neg (by decide), if_neg (by decide), if_neg (by decide), if_pos rfl, s_bq hx hy h0, Option.bind_some, m1, Option.bind_some, m2, Option.bind_some]
/-- the least of a class, on both sides -/
theorem s_leasts {N : Nat} (hN : 1048576 ≤ N) {a b c d : Int} (hx : eb (a, b)) (hy : eb (c, d)) (h0 : (c, d) ≠ (0, 0)) (v3 : Int32) (sa sb ra rb : Int64) : ∃ (z : Int × Int) (ta tb ra' rb' : Int64), f_X10_leastAround N (lI c) (lI d) (lI (er (a, b) (c, d)).1) (lI (er (a, b) (c, d)).2) sa sb = some (lI z.1, lI z.2, ta, tb) ∧ f_X11_least_95 N N v3 (lI c) (lI d) (lI (er (a, b) (c, d)).1) (lI (er (a, b) (c, d)).2) (lI (er (a, b) (c, d)).1) (lI (er (a, b) (c, d)).2) (-2) ra rb = (if v3 = 0 then some ((lI z.1).toInt32, ra', rb') else some ((lI z.2).toInt32, ra', rb')) := by
  have hre := er_eb (x := (a, b)) hy h0
  have hrb := eb_bd (a := (er (a, b) (c, d)).1) (b := (er (a, b) (c, d)).2) hre
  have hsm : sm6 (er (a, b) (c, d)) := ⟨⟨by omega, by omega⟩, ⟨by omega, by omega⟩⟩
  obtain ⟨ta, tb, e1⟩ := la_loop hN (m := (c, d)) (r := er (a, b) (c, d)) hy hre 6 0 rfl N (er (a, b) (c, d)) sa sb (by omega) hsm
  obtain ⟨ra', rb', e2⟩ := ls_out hN (m := (c, d)) (r := er (a, b) (c, d)) hy hre v3 5 0 rfl N (er (a, b) (c, d)) ra rb (by omega) hsm
  rw [← ls_same h0] at e2
  refine ⟨_, ta, tb, ra', rb', ?_, e2⟩
  unfold f_X10_leastAround f_X5_copy
  rw [Option.bind_some]
  exact e1
theorem q_least (N : Nat) (hN : 1048576 ≤ N) (v1 v2 v3 : Int32) (m_drawers_full m_drawers_kept : Int32) (m_drawers_partA m_drawers_partB m_drawers_keptA m_drawers_keptB m_drawers_keptFull : Nat → Int32) (m_tape_size : Int32) (m_tape_bytes : Nat → Int32) (m_euclid_count : Int32) (m_euclid_last_a m_euclid_last_b m_euclid_lastOfFirst_a m_euclid_lastOfFirst_b m_euclid_lastOfSecond_a m_euclid_lastOfSecond_b m_euclid_next_a m_euclid_next_b m_euclid_nextOfFirst_a m_euclid_nextOfFirst_b m_euclid_nextOfSecond_a m_euclid_nextOfSecond_b m_euclid_q_a m_euclid_q_b : Int64) (m_euclid_quotientA m_euclid_quotientB : Nat → Int64) (m_primes_count : Int32) (m_primes_primeA m_primes_primeB : Nat → Int32) (m_one_a m_one_b m_two_a m_two_b m_three_a m_three_b m_out_a m_out_b m_spare_a m_spare_b : Int64) (m_taped m_states : Int32) (m_ra m_rb : Int64) (m_listed : Int32) (m_tape m_has m_keptHas m_first m_second m_keptFirst m_keptSecond m_la0 m_lb0 : Nat → Int32) (hR : kR m_drawers_full m_drawers_kept m_drawers_partA m_drawers_partB m_drawers_keptA m_drawers_keptB m_drawers_keptFull m_tape_size m_tape_bytes m_primes_count m_primes_primeA m_primes_primeB m_taped m_tape m_has m_keptHas m_first m_second m_keptFirst m_keptSecond m_states m_la0 m_lb0 m_listed) : ∃ (y : Int32 × Int32 × Int64 × Int64 × Int64 × Int64 × Int64 × Int64 × Int64 × Int64 × Int64 × Int64 × Int64 × Int64 × Int64 × Int64 × (Nat → Int64) × (Nat → Int64) × Int64 × Int64 × Int64 × Int64 × Int64 × Int64 × Int64 × Int64 × Int64 × Int64) (z : Int32 × Int64 × Int64), f_X10_least N v1 v2 v3 m_drawers_full m_drawers_partA m_drawers_partB m_euclid_count m_euclid_last_a m_euclid_last_b m_euclid_lastOfFirst_a m_euclid_lastOfFirst_b m_euclid_lastOfSecond_a m_euclid_lastOfSecond_b m_euclid_next_a m_euclid_next_b m_euclid_nextOfFirst_a m_euclid_nextOfFirst_b m_euclid_nextOfSecond_a m_euclid_nextOfSecond_b m_euclid_q_a m_euclid_q_b m_euclid_quotientA m_euclid_quotientB m_one_a m_one_b m_two_a m_two_b m_three_a m_three_b m_out_a m_out_b m_spare_a m_spare_b = some y ∧ f_X11_least N v1 v2 v3 m_ra m_rb m_has m_first m_second = some z ∧ y.1 = z.1 ∧ kR m_drawers_full m_drawers_kept m_drawers_partA m_drawers_partB m_drawers_keptA m_drawers_keptB m_drawers_keptFull m_tape_size m_tape_bytes m_primes_count m_primes_primeA m_primes_primeB m_taped m_tape m_has m_keptHas m_first m_second m_keptFirst m_keptSecond m_states m_la0 m_lb0 m_listed := by
  have hR0 := hR
  obtain ⟨⟨dr, hD⟩, hK, hT, hP⟩ := hR
  obtain ⟨w, hw, rfl⟩ := iI_of v3
  have hlt : (iI w < 0) = (w < 0) := propext (iI_lt0 hw)
  have hgt : ((1 : Int32) < iI w) = (1 < w) := propext (iI_lt (a := 1) ⟨by decide, by decide⟩ hw)
  unfold f_X10_least f_X11_least
  simp only [hlt, hgt]
  rcases dr_two dr v1 v2 with h | ⟨i, j, hi, hj, rfl, rfl, h⟩
  · rw [s_areD_out h]
    simp only [Option.bind_some, z00, if_true]
    by_cases c1 : w < 0
    · rw [if_pos c1]; exact ⟨_, _, rfl, rfl, rfl, hR0⟩
    · rw [if_neg c1]
      by_cases c2 : 1 < w
      · rw [if_pos c2]; exact ⟨_, _, rfl, rfl, rfl, hR0⟩
      · rw [if_neg c2]
        rcases dr_cases v1 with h1 | ⟨i, hi, rfl⟩
        · simp only [(dr_out h1).1, Option.bind_some, z00, if_true]
          exact ⟨_, _, rfl, rfl, rfl, hR0⟩
        · rcases dr_cases v2 with h2 | ⟨j, hj, rfl⟩
          · simp only [(dr_in hi).1, (dr_out h2).1, Option.bind_some, z00, z10, if_true, if_false]
            exact ⟨_, _, rfl, rfl, rfl, hR0⟩
          · exfalso
            have no : ∀ {q : Nat}, q < 8 → ¬ (nI q < 0 ∨ (8 : Int32) ≤ nI q) := by
              intro q hq z
              rcases z with z | z
              · exact nI_pos (by omega) z
              · exact nI_ge (b := 8) hq (by decide) z
            rcases h with h | h
            · exact no hi h
            · exact no hj h
  · rw [s_areD hi hj hw, s_hasBoth hD hi hj]
    simp only [(dr_in hi).1, (dr_in hj).1, Option.bind_some, z10, if_false]
    by_cases cw : 0 ≤ w ∧ w ≤ 1
    · rw [if_neg (show ¬ w < 0 by omega), if_neg (show ¬ 1 < w by omega), if_pos cw, if_neg (show ¬ (1 : Int32) = 0 by decide)]
      rcases h with h | ⟨a, b, c, d, e1, e2⟩
      · rw [s_two_none hD hi hj h, isome_and h]
        simp only [Option.bind_some, zm2, if_false, z00, if_true, Bool.false_eq_true]
        exact ⟨_, _, rfl, rfl, rfl, hR0⟩
      · obtain ⟨hn1, -, -, f1, g1⟩ := hD.num hi e1
        obtain ⟨hn2, -, -, f2, g2⟩ := hD.num hj e2
        rw [s_two hD hi hj e1 e2, isome_and1 e1 e2, s_isNothing hD hj e2]
        simp only [Option.bind_some, z00, z10, if_true, if_false, s_isNought hn2.b64.1 hn2.b64.2]
        by_cases c0 : c = 0 ∧ d = 0
        · rw [if_pos c0, if_neg (show ¬ (1 : Int32) = 0 by decide), if_neg (show ¬ (1 : Int32) = 0 by decide)]
          exact ⟨_, _, rfl, rfl, rfl, hR0⟩
        · have h0 : (c, d) ≠ (0, 0) := fun z => c0 ⟨congrArg Prod.fst z, congrArg Prod.snd z⟩
          have hx1 := hn1.eb
          have hx2 := hn2.eb
          obtain ⟨s, t, k1⟩ := s_reckon4 N m_euclid_count m_euclid_last_a m_euclid_last_b m_euclid_lastOfFirst_a m_euclid_lastOfFirst_b m_euclid_lastOfSecond_a m_euclid_lastOfSecond_b m_euclid_next_a m_euclid_next_b m_euclid_nextOfFirst_a m_euclid_nextOfFirst_b m_euclid_nextOfSecond_a m_euclid_nextOfSecond_b m_euclid_q_a m_euclid_q_b m_euclid_quotientA m_euclid_quotientB hx1 hx2 h0 m_spare_a m_spare_b
          obtain ⟨z, ta, tb, ra', rb', k2, k3⟩ := s_leasts hN hx1 hx2 h0 (iI w) s t (lI (er (a, b) (c, d)).1) (lI (er (a, b) (c, d)).2)
          simp only [c0, if_false, z00, if_true, k1, k2, Option.bind_some, dr_cl hi, dr_n0 hi, dr_8 hi, dr_cl hj, dr_n0 hj, dr_8 hj, or_self, f1, f2, g1, g2, iI_l hn1.b32.1, iI_l hn1.b32.2, iI_l hn2.b32.1, iI_l hn2.b32.2, s_rests hx1 hx2 h0, k3, f_X10_part]
          by_cases cz : iI w = 0
          · rw [if_pos cz, if_pos cz, Option.bind_some]; exact ⟨_, _, rfl, rfl, rfl, hR0⟩
          · rw [if_neg cz, if_neg cz, Option.bind_some]; exact ⟨_, _, rfl, rfl, rfl, hR0⟩
    · have cA : ∀ {α : Type} {P R : Option α}, (if w < 0 then P else if 1 < w then P else R) = P := by
        intro α P R
        by_cases c1 : w < 0
        · rw [if_pos c1]
        · rw [if_neg c1, if_pos (by omega)]
      rw [cA, if_neg cw, if_pos rfl]
      exact ⟨_, _, rfl, rfl, rfl, hR0⟩
