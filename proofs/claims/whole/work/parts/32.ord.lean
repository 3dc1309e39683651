/-! ===== linear; powers that come back to 1: order ===== -/
theorem q_linear (N : Nat) (hN : 1048576 ≤ N) (v1 v2 v3 v4 v5 : Int32) (m_drawers_full m_drawers_kept : Int32) (m_drawers_partA m_drawers_partB m_drawers_keptA m_drawers_keptB m_drawers_keptFull : Nat → Int32) (m_tape_size : Int32) (m_tape_bytes : Nat → Int32) (m_modulus_step m_modulus_width m_modulus_slant : Int64) (m_primes_count : Int32) (m_primes_primeA m_primes_primeB : Nat → Int32) (m_one_a m_one_b m_two_a m_two_b m_three_a m_three_b m_out_a m_out_b : Int64) (m_taped m_states : Int32) (m_ra m_rb m_boxWide m_boxHigh m_boxStep : Int64) (m_listed : Int32) (m_tape m_has m_keptHas m_first m_second m_keptFirst m_keptSecond m_la0 m_lb0 : Nat → Int32) (hR : kR m_drawers_full m_drawers_kept m_drawers_partA m_drawers_partB m_drawers_keptA m_drawers_keptB m_drawers_keptFull m_tape_size m_tape_bytes m_primes_count m_primes_primeA m_primes_primeB m_taped m_tape m_has m_keptHas m_first m_second m_keptFirst m_keptSecond m_states m_la0 m_lb0 m_listed) : ∃ (y : Int32 × Int64 × Int64 × Int64 × Int64 × Int64 × Int64 × Int64 × Int64 × Int64 × Int64 × Int64) (z : Int32 × Int64 × Int64 × Int64 × Int64 × Int64), f_X10_linear N v1 v2 v3 v4 v5 m_drawers_full m_drawers_partA m_drawers_partB m_modulus_step m_modulus_width m_modulus_slant m_one_a m_one_b m_two_a m_two_b m_three_a m_three_b m_out_a m_out_b = some y ∧ f_X11_linear N v1 v2 v3 v4 v5 m_ra m_rb m_boxWide m_boxHigh m_boxStep m_has m_first m_second = some z ∧ y.1 = z.1 ∧ kR m_drawers_full m_drawers_kept m_drawers_partA m_drawers_partB m_drawers_keptA m_drawers_keptB m_drawers_keptFull m_tape_size m_tape_bytes m_primes_count m_primes_primeA m_primes_primeB m_taped m_tape m_has m_keptHas m_first m_second m_keptFirst m_keptSecond m_states m_la0 m_lb0 m_listed := by
  have hR0 := hR
  obtain ⟨⟨dr, hD⟩, hK, hT, hP⟩ := hR
  unfold f_X10_linear f_X11_linear
  simp only [s_isPartOf, in01, Option.bind_some]
  have out3 : ∀ {α : Type} {P R : Option α}, ((v1 < 0 ∨ (8 : Int32) ≤ v1) ∨ (v2 < 0 ∨ (8 : Int32) ≤ v2) ∨ (v3 < 0 ∨ (8 : Int32) ≤ v3)) → ((f_X11_isDrawer v1).bind fun y1 => if y1 = 0 then P else (f_X11_isDrawer v2).bind fun y8 => if y8 = 0 then P else (f_X11_isDrawer v3).bind fun y15 => if y15 = 0 then P else R) = P := by
    intro α P R h
    rcases dr_cases v1 with g | ⟨i, hi, rfl⟩
    · simp only [(dr_out g).2, Option.bind_some, z00, if_true]
    · rcases dr_cases v2 with g | ⟨j, hj, rfl⟩
      · simp only [(dr_in hi).2, (dr_out g).2, Option.bind_some, z00, z10, if_true, if_false]
      · rcases dr_cases v3 with g | ⟨l, hl, rfl⟩
        · simp only [(dr_in hi).2, (dr_in hj).2, (dr_out g).2, Option.bind_some, z00, z10, if_true, if_false]
        · exfalso
          have no : ∀ {q : Nat}, q < 8 → ¬ (nI q < 0 ∨ (8 : Int32) ≤ nI q) := by
            intro q hq z
            rcases z with z | z
            · exact nI_pos (by omega) z
            · exact nI_ge (b := 8) hq (by decide) z
          rcases h with h | h | h
          · exact no hi h
          · exact no hj h
          · exact no hl h
  rcases dr_cases v3 with h3 | ⟨l, hl, rfl⟩
  · rw [out3 (Or.inr (Or.inr h3))]
    simp only [(dr_out h3).1, Option.bind_some, z00, if_true]
    exact ⟨_, _, rfl, rfl, rfl, hR0⟩
  · simp only [(dr_in hl).1, Option.bind_some, z10, if_false]
    by_cases hbad : (v1 < 0 ∨ (8 : Int32) ≤ v1) ∨ (v2 < 0 ∨ (8 : Int32) ≤ v2)
    · rw [out3 (by rcases hbad with h | h; exact Or.inl h; exact Or.inr (Or.inl h)), s_two_out hbad]
      simp only [Option.bind_some, zm1, if_false]
      by_cases c1 : v4 < -1
      · rw [if_pos c1]; exact ⟨_, _, rfl, rfl, rfl, hR0⟩
      · rw [if_neg c1]
        by_cases c2 : (if v4 = -1 ∨ v5 = 0 ∨ v5 = 1 then (1 : Int32) else 0) = 0
        · rw [if_pos c2]; exact ⟨_, _, rfl, rfl, rfl, hR0⟩
        · rw [if_neg c2]; exact ⟨_, _, rfl, rfl, rfl, hR0⟩
    · rcases dr_two dr v1 v2 with h | ⟨i, j, hi, hj, rfl, rfl, hrest⟩
      · exact absurd h hbad
      simp only [(dr_in hi).2, (dr_in hj).2, (dr_in hl).2, Option.bind_some, z10, if_false]
      by_cases ck : v4 < -1
      · rw [if_pos ck, if_pos ck]; exact ⟨_, _, rfl, rfl, rfl, hR0⟩
      · rw [if_neg ck, if_neg ck]
        have hv4 : v4 = -1 ∨ ∃ k : Nat, k < 2147483648 ∧ v4 = nI k := by
          rcases m1_cases ck with h | h
          · exact Or.inl h.1
          · exact Or.inr h.2.2
        by_cases cp : v4 = -1 ∨ v5 = 0 ∨ v5 = 1
        · have hg : ∀ {α : Type} {P R : Option α}, (if v4 < 0 then P else if (if v5 = 0 ∨ v5 = 1 then (1 : Int32) else 0) = 0 then R else P) = P := by
            intro α P R
            rcases m1_cases ck with h | h
            · rw [if_pos h.2]
            · have : v5 = 0 ∨ v5 = 1 := by
                rcases cp with c | c
                · exact absurd c h.1
                · exact c
              rw [if_neg h.2.1, if_pos this, if_neg (by decide)]
          simp only [cp, if_true, z10, if_false, hg]
          unfold f_X11_linear_45
          rcases hrest with h | ⟨a, b, c, d, e1, e2⟩
          · rw [s_two_none hD hi hj h, s_hasBoth hD hi hj, isome_and h]
            simp only [Option.bind_some, zm2, if_false, z00, if_true, Bool.false_eq_true]
            exact ⟨_, _, rfl, rfl, rfl, hR0⟩
          · obtain ⟨hn1, -, -, f1, g1⟩ := hD.num hi e1
            obtain ⟨hn2, -, -, f2, g2⟩ := hD.num hj e2
            rw [s_two hD hi hj e1 e2, s_hasBoth hD hi hj, isome_and1 e1 e2]
            simp only [Option.bind_some, z10, z00, if_true, if_false, dr_cl hl, dr_n0 hl, dr_8 hl, or_self]
            cases e3 : dr l with
            | none =>
              simp only [s_has0 hD hl e3, hD.hasN hl e3, Option.bind_some, z00, if_true]
              exact ⟨_, _, rfl, rfl, rfl, hR0⟩
            | some p =>
              obtain ⟨p, q⟩ := p
              obtain ⟨hn3, -, -, f3, g3⟩ := hD.num hl e3
              simp only [s_has1 hD hl e3, hD.has1 hl e3, s_load hD hl e3, Option.bind_some, z10, if_false]
              rcases few_cases hN hD hl e3 (L := 2000) ⟨by decide, by decide⟩ m_modulus_step m_modulus_width m_modulus_slant with ⟨⟨y, k1⟩, k2⟩ | ⟨H, W, S, q1, q2, hB, k1, k2, k3⟩
              · have k1' : f_X4_openFew N 2000 m_modulus_step m_modulus_width m_modulus_slant (lI p) (lI q) = some (0, y) := k1
                have k2' : f_X11_isGreat (nI l) 2000 m_first m_second = some 1 := k2
                simp only [Option.bind_some, z10, z00, if_true, if_false, k1', k2']
                exact ⟨_, _, rfl, rfl, rfl, hR0⟩
              · have k1' : f_X4_openFew N 2000 m_modulus_step m_modulus_width m_modulus_slant (lI p) (lI q) = some (1, lI H, lI W, lI S) := k1
                have k2' : f_X11_isGreat (nI l) 2000 m_first m_second = some 0 := k2
                have hbd := eb_bd hn1.eb
                have hbd2 := eb_bd hn2.eb
                have ok1 := small_ok hB hn3.eb (x := a) (y := b) ⟨by omega, by omega⟩ ⟨by omega, by omega⟩
                have ok2 := small_ok hB hn3.eb (x := c) (y := d) ⟨by omega, by omega⟩ ⟨by omega, by omega⟩
                have hr1 := rs_isR hB (a, b)
                have hr2 := rs_isR hB (c, d)
                simp only [Option.bind_some, z10, z00, if_true, if_false, k1', k2', dr_cl hi, dr_n0 hi, dr_8 hi, dr_cl hj, dr_n0 hj, dr_8 hj, or_self, f1, f2, f3, g1, g2, g3, iI_l hn1.b32.1, iI_l hn1.b32.2, iI_l hn2.b32.1, iI_l hn2.b32.2, iI_l hn3.b32.1, iI_l hn3.b32.2, k3, s_reduce hB hn3.eb ok1.1 ok1.2.1, s_reduce hB hn3.eb ok2.1 ok2.2.1, f_X11_looksFor, s_boxes hB hn3.eb ok1.1 ok1.2.2, s_boxes hB hn3.eb ok2.1 ok2.2.2, s_place (r := rs H W S (c, d)) _ _ rfl rfl]
                obtain ⟨n1, n2, n3, n4⟩ := bx_nat hB q1
                have hWH : W * 1 ≤ W * H := Nat.mul_le_mul_left W n1
                obtain ⟨yv, zv, r1, r2, r3⟩ := sk_all hN hB q1 0 v4 v5 (Or.inl rfl) hv4 (one2 := rs H W S (a, b)) (fun _ => rfl) hr1 hr2 H 0 (by omega) N 0 m_out_a m_out_b (lI (rs H W S (a, b)).1) (lI (rs H W S (a, b)).2) N (by omega) (by omega) (by omega) (fun j p => absurd p (by omega))
                rw [Nat.zero_mul] at r2
                unfold f_X10_seekResidue
                have r1' : f_X10_seekResidue_6 N N 0 v4 0 0 (lI H) (lI W) (lI S) (lI (rs H W S (a, b)).1) (lI (rs H W S (a, b)).2) m_out_a m_out_b (lI (rs H W S (c, d)).1) (lI (rs H W S (c, d)).2) = some yv := r1
                have r2' : f_X11_looksFor_39 N N 0 v4 v5 (iI (W * (rs H W S (c, d)).2 + (rs H W S (c, d)).1)) (lI (rs H W S (a, b)).1) (lI (rs H W S (a, b)).2) 0 0 (lI (rs H W S (a, b)).1) (lI (rs H W S (a, b)).2) (lI W) (lI H) (lI S) = some zv := r2
                rw [r1', r2', Option.bind_some, Option.bind_some, r3, Option.bind_some]
                exact ⟨_, _, rfl, rfl, rfl, hR0⟩
        · have cp1 : ¬ v4 = -1 := fun z => cp (Or.inl z)
          have cp2 : ¬ (v5 = 0 ∨ v5 = 1) := fun z => cp (Or.inr z)
          have ck2 : ¬ v4 < 0 := by
            rcases m1_cases ck with h | h
            · exact absurd h.1 cp1
            · exact h.2.1
          simp only [cp1, cp2, or_self, if_false, z00, if_true, ck2]
          exact ⟨_, _, rfl, rfl, rfl, hR0⟩
/-- two of n + 1 fall together, if there are n places -/
theorem pigeon : ∀ (n : Nat) (f : Nat → Nat), (∀ i, i ≤ n → f i < n) → ∃ i j, i < j ∧ j ≤ n ∧ f i = f j
  | 0, f, h => absurd (h 0 (Nat.le_refl 0)) (by omega)
  | n + 1, f, h => by
    by_cases c : ∃ i, i ≤ n ∧ f i = f (n + 1)
    · obtain ⟨i, hi, e⟩ := c
      exact ⟨i, n + 1, by omega, Nat.le_refl _, e⟩
    · have hne : ∀ i, i ≤ n → f i ≠ f (n + 1) := fun i hi e => c ⟨i, hi, e⟩
      have h1 := h (n + 1) (Nat.le_refl _)
      obtain ⟨i, j, hij, hj, e⟩ := pigeon n (fun i => if f i = n then f (n + 1) else f i) (fun i hi => by
        show (if f i = n then f (n + 1) else f i) < n
        have h2 := h i (by omega)
        have h3 := hne i hi
        by_cases d : f i = n
        · rw [if_pos d]; omega
        · rw [if_neg d]; omega)
      have e' : (if f i = n then f (n + 1) else f i) = (if f j = n then f (n + 1) else f j) := e
      refine ⟨i, j, hij, by omega, ?_⟩
      by_cases d1 : f i = n
      · by_cases d2 : f j = n
        · omega
        · rw [if_pos d1, if_neg d2] at e'
          exact absurd e'.symm (hne j hj)
      · by_cases d2 : f j = n
        · rw [if_neg d1, if_pos d2] at e'
          exact absurd e' (hne i (by omega))
        · rw [if_neg d1, if_neg d2] at e'
          exact e'
theorem least_ex {P : Nat → Prop} : ∀ n : Nat, P n → ∃ k, k ≤ n ∧ P k ∧ ∀ j, j < k → ¬ P j := by
  intro n
  induction n using Nat.strongRecOn with
  | ind n ih =>
    intro h
    by_cases c : ∃ j, j < n ∧ P j
    · obtain ⟨j, hj, hp⟩ := c
      obtain ⟨k, h1, h2, h3⟩ := ih j hj hp
      exact ⟨k, by omega, h2, h3⟩
    · exact ⟨n, Nat.le_refl _, h, fun j hj hp => c ⟨j, hj, hp⟩⟩
theorem cop_cancel {x m z : Int × Int} (h : cop x m) (hd : ed m (em x z)) : ed m z := by
  obtain ⟨u, v, e⟩ := h
  have e1 : z = ead (em u (em x z)) (em v (em m z)) := by
    have : em (ead (em u x) (em v m)) z = z := by rw [e, em_one]
    rw [← this]
    conv => rhs; rw [this]
    simp only [em, ead]
    refine e_ext ?_ ?_ <;> simp only [] <;> grind
  rw [e1]
  exact ed_add (ed_mull hd _) (ed_mull (ed_mul m z) _)
theorem cop_mul {x y m : Int × Int} (h : cop x m) (h' : cop y m) : cop (em x y) m := by
  obtain ⟨u, v, e⟩ := h
  obtain ⟨s, t, e'⟩ := h'
  refine ⟨em u s, ead (em (em u x) t) v, ?_⟩
  have e2 : ead (em (em u s) (em x y)) (em (ead (em (em u x) t) v) m) = ead (em (em u x) (ead (em s y) (em t m))) (em v m) := by
    simp only [em, ead]
    refine e_ext ?_ ?_ <;> simp only [] <;> grind
  rw [e2, e', em_one', e]
theorem cop_pw {x m : Int × Int} (h : cop x m) : ∀ k : Nat, cop (epw x k) m
  | 0 => ⟨(1, 0), (0, 0), by rw [em_zero']; rfl⟩
  | k + 1 => cop_mul (cop_pw h k) h
theorem esb_em_l (x y z : Int × Int) : esb (em x y) (em x z) = em x (esb y z) := (em_sub x y z).symm
/-- some power of one prime to m is of 1's class -/
theorem ord_ex {m : Int × Int} {H W : Nat} {S : Int} (h : bx m (H : Int) (W : Int) S) {x : Int × Int} (hc : cop x m) : ∃ k : Nat, 1 ≤ k ∧ k ≤ W * H ∧ rs H W S (epw x k) = rs H W S (1, 0) ∧ ∀ j, 1 ≤ j → j < k → rs H W S (epw x j) ≠ rs H W S (1, 0) := by
  have pl : ∀ z, 0 ≤ (W : Int) * (rs H W S z).2 + (rs H W S z).1 ∧ (W : Int) * (rs H W S z).2 + (rs H W S z).1 < ((W * H : Nat) : Int) := fun z => place_bd (rs_isR h z)
  obtain ⟨i, j, hij, hj, e⟩ := pigeon (W * H) (fun i => ((W : Int) * (rs H W S (epw x i)).2 + (rs H W S (epw x i)).1).toNat) (fun i _ => by
    have := pl (epw x i)
    show ((W : Int) * (rs H W S (epw x i)).2 + (rs H W S (epw x i)).1).toNat < W * H
    omega)
  have e0 : ((W : Int) * (rs H W S (epw x i)).2 + (rs H W S (epw x i)).1).toNat = ((W : Int) * (rs H W S (epw x j)).2 + (rs H W S (epw x j)).1).toNat := e
  have p1 := pl (epw x i)
  have p2 := pl (epw x j)
  have e1 : rs H W S (epw x j) = rs H W S (epw x i) := place_inj (rs_isR h _) (rs_isR h _) (by omega)
  have e2 := (rs_iff h).mp e1
  have e3 : epw x j = em (epw x i) (epw x (j - i)) := by
    have := epw_add x i (j - i)
    rwa [show i + (j - i) = j by omega] at this
  have e4 : ed m (em (epw x i) (esb (epw x (j - i)) (1, 0))) := by
    rw [← esb_em_l, em_one', ← e3]; exact e2
  have e5 : rs H W S (epw x (j - i)) = rs H W S (1, 0) := (rs_iff h).mpr (cop_cancel (cop_pw hc i) e4)
  obtain ⟨k, k1, k2, k3⟩ := least_ex (P := fun k => 1 ≤ k ∧ rs H W S (epw x k) = rs H W S (1, 0)) (j - i) ⟨by omega, e5⟩
  exact ⟨k, k2.1, by omega, k2.2, fun q q1 q2 z => k3 q q2 ⟨q1, z⟩⟩
section ORD
variable {m : Int × Int} {H W : Nat} {S : Int}
theorem ord_loop (N : Nat) (h : bx m (H : Int) (W : Int) S) (hb : en m ≤ 2000) (x : Int × Int) {k0 : Nat} (hk : k0 ≤ 2000) (h1 : rs H W S (epw x k0) = rs H W S (1, 0)) (h2 : ∀ j, 1 ≤ j → j < k0 → rs H W S (epw x j) ≠ rs H W S (1, 0)) : ∀ (n k : Nat), 1 ≤ k → k + n = k0 → ∀ f : Nat, n < f → f_X10_orderOf_38 N f (nI k) (lI H) (lI W) (lI S) (lI (rs H W S (epw x k)).1) (lI (rs H W S (epw x k)).2) (lI (rs H W S (1, 0)).1) (lI (rs H W S (1, 0)).2) (lI (rs H W S x).1) (lI (rs H W S x).2) = some (nI k0, lI (rs H W S (1, 0)).1, lI (rs H W S (1, 0)).2, lI (rs H W S (1, 0)).1, lI (rs H W S (1, 0)).2, lI (rs H W S x).1, lI (rs H W S x).2) ∧ f_X11_orderOf_33 N f (iI (W * (rs H W S (1, 0)).2 + (rs H W S (1, 0)).1)) (lI (rs H W S x).1) (lI (rs H W S x).2) (nI k) (lI (rs H W S (epw x k)).1) (lI (rs H W S (epw x k)).2) (lI W) (lI H) (lI S) = some (nI k0, lI (rs H W S (1, 0)).1, lI (rs H W S (1, 0)).2) := by
  obtain ⟨n1, n2, n3, n4⟩ := bx_nat h hb
  have hb' : eb m := Int.le_trans hb (by decide)
  have hW : W ≤ 2000 := by
    have : W * 1 ≤ W * H := Nat.mul_le_mul_left W n1
    omega
  have B := fun z => isR_64 (by omega) n2 (rs_isR h z)
  have P := fun z => place_bd (rs_isR h z)
  intro n
  induction n with
  | zero =>
    intro k hk1 hkn f hf
    obtain rfl : k = k0 := by omega
    obtain ⟨f, rfl⟩ : ∃ f', f = f' + 1 := ⟨f - 1, by omega⟩
    rw [f_X10_orderOf_38, f_X11_orderOf_33, h1, s_place (r := rs H W S (1, 0)) _ _ rfl rfl, Option.bind_some, if_pos rfl, s_isSame (B _) (B _), Option.bind_some, if_pos (decide_eq_true rfl), if_neg j1]
    refine ⟨?_, rfl⟩
    split <;> rfl
  | succ n ih =>
    intro k hk1 hkn f hf
    obtain ⟨f, rfl⟩ : ∃ f', f = f' + 1 := ⟨f - 1, by omega⟩
    have hne := h2 k hk1 (by omega)
    have cd : ¬ decide (rs H W S (epw x k) = rs H W S (1, 0)) = true := by simp only [decide_eq_true_eq]; exact hne
    have sm := s_red_mul h hb' (rs_isR h (epw x k)) (rs_isR h x)
    have st := s_timesIn h hb' (rs_isR h (epw x k)) (rs_isR h x)
    rw [s_multiply, Option.bind_some] at sm
    have e : rs H W S (em (rs H W S (epw x k)) (rs H W S x)) = rs H W S (epw x (k + 1)) := by rw [rs_mul h, rs_mul' h]; rfl
    have p1 := P (epw x k)
    have p2 := P (1, 0)
    rw [f_X10_orderOf_38, f_X11_orderOf_33, s_place (r := rs H W S (epw x k)) _ _ rfl rfl, Option.bind_some, if_neg (fun z => hne (place_inj (rs_isR h _) (rs_isR h _) ((iI_eq ⟨by omega, by omega⟩ ⟨by omega, by omega⟩).mp z))), s_isSame (B _) (B _), Option.bind_some, if_neg cd, if_pos rfl, if_neg (show ¬ (2000 : Int32) ≤ nI k from nI_ge (b := 2000) (by omega) (by decide)), s_multiply, Option.bind_some, sm, Option.bind_some, st, Option.bind_some, e, nI_1]
    exact ih (k + 1) (by omega) (by omega) f (by omega)
/-- the order of one prime to m, on both sides -/
theorem s_orderOf {N : Nat} (hN : 1048576 ≤ N) (h : bx m (H : Int) (W : Int) S) (hb : en m ≤ 2000) {x : Int × Int} (hx : eb x) {k0 : Nat} (hk1 : 1 ≤ k0) (hk : k0 ≤ 2000) (h1 : rs H W S (epw x k0) = rs H W S (1, 0)) (h2 : ∀ j, 1 ≤ j → j < k0 → rs H W S (epw x j) ≠ rs H W S (1, 0)) : f_X10_orderOf N (lI H) (lI W) (lI S) (lI x.1) (lI x.2) = some (nI k0, lI (rs H W S (1, 0)).1, lI (rs H W S (1, 0)).2, lI (rs H W S (1, 0)).1, lI (rs H W S (1, 0)).2, lI (rs H W S x).1, lI (rs H W S x).2) ∧ f_X11_orderOf N (lI x.1) (lI x.2) (lI W) (lI H) (lI S) = some (nI k0, lI (rs H W S (1, 0)).1, lI (rs H W S (1, 0)).2) := by
  have hb' : eb m := Int.le_trans hb (by decide)
  have hx' := eb_bd (a := x.1) (b := x.2) hx
  have k1 := small_ok h hb' (x := x.1) (y := x.2) ⟨by omega, by omega⟩ ⟨by omega, by omega⟩
  have k2 := small_ok h hb' (x := 1) (y := 0) ⟨by omega, by omega⟩ ⟨by omega, by omega⟩
  have r1 := s_reduce h hb' k1.1 k1.2.1
  have r2 := s_reduce h hb' k2.1 k2.2.1
  have t1 := s_boxes h hb' k1.1 k1.2.2
  have t2 := s_boxes h hb' k2.1 k2.2.2
  obtain ⟨o1, o2⟩ := ord_loop N h hb x hk h1 h2 (k0 - 1) 1 (Nat.le_refl _) (by omega) N (by omega)
  rw [epw_1] at o1 o2
  unfold f_X10_orderOf f_X11_orderOf f_X5_set f_X5_copy
  rw [r1, Option.bind_some, Option.bind_some, l1, l0, r2, Option.bind_some, Option.bind_some, t2, Option.bind_some, s_place (r := rs H W S (1, 0)) _ _ rfl rfl, Option.bind_some, t1, Option.bind_some]
  exact ⟨o1, o2⟩
end ORD
theorem q_order (N : Nat) (hN : 1048576 ≤ N) (v1 v2 : Int32) (m_drawers_full m_drawers_kept : Int32) (m_drawers_partA m_drawers_partB m_drawers_keptA m_drawers_keptB m_drawers_keptFull : Nat → Int32) (m_tape_size : Int32) (m_tape_bytes : Nat → Int32) (m_euclid_count : Int32) (m_euclid_last_a m_euclid_last_b m_euclid_lastOfFirst_a m_euclid_lastOfFirst_b m_euclid_lastOfSecond_a m_euclid_lastOfSecond_b m_euclid_next_a m_euclid_next_b m_euclid_nextOfFirst_a m_euclid_nextOfFirst_b m_euclid_nextOfSecond_a m_euclid_nextOfSecond_b m_euclid_q_a m_euclid_q_b : Int64) (m_euclid_quotientA m_euclid_quotientB : Nat → Int64) (m_modulus_step m_modulus_width m_modulus_slant : Int64) (m_primes_count : Int32) (m_primes_primeA m_primes_primeB : Nat → Int32) (m_one_a m_one_b m_two_a m_two_b m_out_a m_out_b m_spare_a m_spare_b : Int64) (m_taped m_states : Int32) (m_ra m_rb m_boxWide m_boxHigh m_boxStep : Int64) (m_listed : Int32) (m_tape m_has m_keptHas m_first m_second m_keptFirst m_keptSecond m_la0 m_lb0 : Nat → Int32) (hR : kR m_drawers_full m_drawers_kept m_drawers_partA m_drawers_partB m_drawers_keptA m_drawers_keptB m_drawers_keptFull m_tape_size m_tape_bytes m_primes_count m_primes_primeA m_primes_primeB m_taped m_tape m_has m_keptHas m_first m_second m_keptFirst m_keptSecond m_states m_la0 m_lb0 m_listed) : ∃ (y : Int32 × Int32 × Int64 × Int64 × Int64 × Int64 × Int64 × Int64 × Int64 × Int64 × Int64 × Int64 × Int64 × Int64 × Int64 × Int64 × (Nat → Int64) × (Nat → Int64) × Int64 × Int64 × Int64 × Int64 × Int64 × Int64 × Int64 × Int64 × Int64 × Int64 × Int64) (z : Int32 × Int64 × Int64 × Int64 × Int64 × Int64), f_X10_order N v1 v2 m_drawers_full m_drawers_partA m_drawers_partB m_euclid_count m_euclid_last_a m_euclid_last_b m_euclid_lastOfFirst_a m_euclid_lastOfFirst_b m_euclid_lastOfSecond_a m_euclid_lastOfSecond_b m_euclid_next_a m_euclid_next_b m_euclid_nextOfFirst_a m_euclid_nextOfFirst_b m_euclid_nextOfSecond_a m_euclid_nextOfSecond_b m_euclid_q_a m_euclid_q_b m_euclid_quotientA m_euclid_quotientB m_modulus_step m_modulus_width m_modulus_slant m_one_a m_one_b m_two_a m_two_b m_out_a m_out_b m_spare_a m_spare_b = some y ∧ f_X11_order N v1 v2 m_ra m_rb m_boxWide m_boxHigh m_boxStep m_has m_first m_second = some z ∧ y.1 = z.1 ∧ kR m_drawers_full m_drawers_kept m_drawers_partA m_drawers_partB m_drawers_keptA m_drawers_keptB m_drawers_keptFull m_tape_size m_tape_bytes m_primes_count m_primes_primeA m_primes_primeB m_taped m_tape m_has m_keptHas m_first m_second m_keptFirst m_keptSecond m_states m_la0 m_lb0 m_listed := by
  have hR0 := hR
  obtain ⟨⟨dr, hD⟩, hK, hT, hP⟩ := hR
  unfold f_X10_order f_X11_order
  rcases dr_two dr v1 v2 with h | ⟨i, j, hi, hj, rfl, rfl, h | ⟨a, b, c, d, e1, e2⟩⟩
  · rw [s_two_out h]
    simp only [Option.bind_some, zm1, if_false]
    rcases s_both_out h with h | ⟨h, h'⟩
    · simp only [h, Option.bind_some, z00, if_true]
      exact ⟨_, _, rfl, rfl, rfl, hR0⟩
    · simp only [h, h', Option.bind_some, z00, if_true, z10, if_false]
      exact ⟨_, _, rfl, rfl, rfl, hR0⟩
  · rw [s_two_none hD hi hj h, s_hasBoth hD hi hj, isome_and h]
    simp only [Option.bind_some, zm2, if_false, (dr_in hi).2, (dr_in hj).2, z10, z00, if_true, Bool.false_eq_true]
    exact ⟨_, _, rfl, rfl, rfl, hR0⟩
  · obtain ⟨hn1, -, -, f1, g1⟩ := hD.num hi e1
    obtain ⟨hn2, -, -, f2, g2⟩ := hD.num hj e2
    rw [s_two hD hi hj e1 e2, s_hasBoth hD hi hj, isome_and1 e1 e2]
    rcases few_cases hN hD hj e2 (L := 2000) ⟨by decide, by decide⟩ m_modulus_step m_modulus_width m_modulus_slant with ⟨⟨y, k1⟩, k2⟩ | ⟨H, W, S, q1, q2, hB, k1, k2, k3⟩
    · have k1' : f_X4_openFew N 2000 m_modulus_step m_modulus_width m_modulus_slant (lI c) (lI d) = some (0, y) := k1
      have k2' : f_X11_isGreat (nI j) 2000 m_first m_second = some 1 := k2
      simp only [Option.bind_some, (dr_in hi).2, (dr_in hj).2, z10, z00, if_true, if_false, k1', k2']
      exact ⟨_, _, rfl, rfl, rfl, hR0⟩
    · have k1' : f_X4_openFew N 2000 m_modulus_step m_modulus_width m_modulus_slant (lI c) (lI d) = some (1, lI H, lI W, lI S) := k1
      have k2' : f_X11_isGreat (nI j) 2000 m_first m_second = some 0 := k2
      obtain ⟨v, n, hv, -, hz, -, hvi, hC, hA, -⟩ := s_primeTo hN hn1.eb hn2.eb
      obtain ⟨qa', qb', QA', QB', c1⟩ := hC m_euclid_q_a m_euclid_q_b m_euclid_quotientA m_euclid_quotientB
      obtain ⟨ra', rb', c2⟩ := hA m_ra m_rb
      simp only [Option.bind_some, (dr_in hi).2, (dr_in hj).2, z10, z00, if_true, if_false, k1', k2', dr_cl hi, dr_n0 hi, dr_8 hi, dr_cl hj, dr_n0 hj, dr_8 hj, or_self, f1, f2, g1, g2, iI_l hn1.b32.1, iI_l hn1.b32.2, iI_l hn2.b32.1, iI_l hn2.b32.2, k3, c1, c2]
      rcases hv with rfl | rfl
      · simp only [z00, if_true]
        exact ⟨_, _, rfl, rfl, rfl, hR0⟩
      · have hc := (cop_iff hz).mp (hvi.mp rfl)
        obtain ⟨k0, o1, o2, o3, o4⟩ := ord_ex hB hc
        obtain ⟨n1, n2, n3, n4⟩ := bx_nat hB q1
        obtain ⟨s1, s2⟩ := s_orderOf hN hB q1 (x := (a, b)) hn1.eb o1 (by omega) o3 o4
        simp only [z10, if_false, s1, s2, Option.bind_some]
        exact ⟨_, _, rfl, rfl, rfl, hR0⟩
