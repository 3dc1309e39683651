/-! ===== keep, undo ===== -/
def cpy (f g : Nat → Int32) (o p m : Nat) : Nat → Int32 := fun x => if o ≤ x ∧ x < o + m then g (x - o + p) else f x
theorem cpy_0 (f g : Nat → Int32) (o p : Nat) : cpy f g o p 0 = f := by
  funext x; unfold cpy; rw [if_neg (by omega)]
theorem cpy_s (f g : Nat → Int32) (o p m : Nat) : upd (cpy f g o p m) (o + m) (g (p + m)) = cpy f g o p (m + 1) := by
  funext x
  unfold cpy upd
  by_cases h : x = o + m
  · subst h
    rw [if_pos rfl, if_pos (by omega)]; congr 1; omega
  · rw [if_neg h]
    by_cases h2 : o ≤ x ∧ x < o + m
    · rw [if_pos (show o ≤ x ∧ x < o + (m + 1) by omega)]; exact if_pos h2
    · rw [if_neg (show ¬ (o ≤ x ∧ x < o + (m + 1)) by omega)]; exact if_neg h2
theorem cpy_in (f g : Nat → Int32) (o p : Nat) {d : Nat} (hd : d < 8) : cpy f g o p 8 (o + d) = g (p + d) := by
  unfold cpy; rw [if_pos (by omega)]; congr 1; omega
theorem cpy_out (f g : Nat → Int32) (o p : Nat) {x : Nat} (h : x < o ∨ o + 8 ≤ x) : cpy f g o p 8 x = f x := by
  unfold cpy; rw [if_neg (by omega)]
theorem kRow_congr {full : Int32} {pA pB has fst snd : Nat → Int32} {o : Nat} {dr : Nat → Option (Int × Int)} {pA' pB' has' fst' snd' : Nat → Int32} {o' : Nat} (h : kRow full pA pB has fst snd o dr) (hc : ∀ d : Nat, d < 8 → pA' (o' + d) = pA (o + d) ∧ pB' (o' + d) = pB (o + d) ∧ has' (o' + d) = has (o + d) ∧ fst' (o' + d) = fst (o + d) ∧ snd' (o' + d) = snd (o + d)) : kRow full pA' pB' has' fst' snd' o' dr := by
  obtain ⟨F, hF, e, hB⟩ := h
  refine ⟨F, hF, e, fun d hd => ?_⟩
  obtain ⟨c1, c2, c3, c4, c5⟩ := hc d hd
  obtain ⟨h1, h2, h3⟩ := hB d hd
  refine ⟨h1, by rw [c3]; exact h2, fun a b e => ?_⟩
  obtain ⟨k1, k2, k3, k4, k5⟩ := h3 a b e
  exact ⟨k1, by rw [c1]; exact k2, by rw [c2]; exact k3, by rw [c4]; exact k4, by rw [c5]; exact k5⟩
theorem kRow_and {full : Int32} {pA pB has fst snd : Nat → Int32} {o : Nat} {dr : Nat → Option (Int × Int)} (h : kRow full pA pB has fst snd o dr) {d : Nat} (hd : d < 8) : has (o + d) &&& 1 = has (o + d) := by
  obtain ⟨F, hF, e, hB⟩ := h
  rw [(hB d hd).2.1]
  cases (dr d).isSome <;> rfl
theorem ix_ok {s j : Nat} (hs : s < 12) (hj : j < 8) : nI s * 8 + nI j = nI (8 * s + j) ∧ (8 : Int32) * nI s + nI j = nI (8 * s + j) := by
  have : ∀ s, s < 12 → ∀ j, j < 8 → nI s * 8 + nI j = nI (8 * s + j) ∧ (8 : Int32) * nI s + nI j = nI (8 * s + j) := by decide +kernel
  exact this s hs j hj
theorem n0_any {n : Nat} (h : n < 2147483648) : (nI n < 0) = False := eq_false (nI_pos h)
theorem push_loop (N : Nat) {s : Nat} (hs : s < 12) (full : Int32) (pA pB kA kB kF : Nat → Int32) : ∀ m j, j + m = 8 → ∀ k, m < k → f_X0_pushState_20 N k (nI j) full (nI s) pA pB (cpy kA pA (8 * s) 0 j) (cpy kB pB (8 * s) 0 j) kF = some (1, nI (s + 1), cpy kA pA (8 * s) 0 8, cpy kB pB (8 * s) 0 8, upd kF s full) := by
  intro m
  induction m with
  | zero =>
    intro j hj k hk
    obtain rfl : j = 8 := by omega
    obtain ⟨k, rfl⟩ : ∃ k', k = k' + 1 := ⟨k - 1, by omega⟩
    have e88 : ((8 : Int32) ≤ nI 8) = True := eq_true (by decide)
    rw [f_X0_pushState_20]
    simp only [e88, if_true, n0_any (show s < 2147483648 by omega), nI_clamp (show s < 2 ^ 31 by omega), false_or, eq_false (show ¬ 12 ≤ s by omega), if_false, nI_1]
  | succ m ih =>
    intro j hjm k hk
    have hj : j < 8 := by omega
    obtain ⟨k, rfl⟩ : ∃ k', k = k' + 1 := ⟨k - 1, by omega⟩
    have e8 : ((8 : Int32) ≤ nI j) = False := eq_false (nI_ge hj (by decide))
    rw [f_X0_pushState_20]
    simp only [e8, if_false, (ix_ok hs hj).1, dr_cl hj, dr_n0 hj, dr_8 hj, or_self, n0_any (show 8 * s + j < 2147483648 by omega), nI_clamp (show 8 * s + j < 2 ^ 31 by omega), false_or, eq_false (show ¬ 96 ≤ 8 * s + j by omega), nI_1]
    have e1 := cpy_s kA pA (8 * s) 0 j
    have e2 := cpy_s kB pB (8 * s) 0 j
    rw [Nat.zero_add] at e1 e2
    rw [e1, e2]
    exact ih (j + 1) (by omega) k (by omega)
theorem keep_loop (N : Nat) {s : Nat} (hs : s < 12) (has kHas fst snd kFst kSnd : Nat → Int32) : ∀ m j, j + m = 8 → ∀ k, m < k → f_X11_keep_13 N k (nI j) (nI s) has (cpy kHas (fun x => has x &&& 1) (8 * s) 0 j) fst snd (cpy kFst fst (8 * s) 0 j) (cpy kSnd snd (8 * s) 0 j) = some (nI (s + 1), nI (s + 1), cpy kHas (fun x => has x &&& 1) (8 * s) 0 8, cpy kFst fst (8 * s) 0 8, cpy kSnd snd (8 * s) 0 8) := by
  intro m
  induction m with
  | zero =>
    intro j hj k hk
    obtain rfl : j = 8 := by omega
    obtain ⟨k, rfl⟩ : ∃ k', k = k' + 1 := ⟨k - 1, by omega⟩
    have e88 : ((8 : Int32) ≤ nI 8) = True := eq_true (by decide)
    rw [f_X11_keep_13]
    simp only [e88, if_true, nI_1]
  | succ m ih =>
    intro j hjm k hk
    have hj : j < 8 := by omega
    obtain ⟨k, rfl⟩ : ∃ k', k = k' + 1 := ⟨k - 1, by omega⟩
    have e8 : ((8 : Int32) ≤ nI j) = False := eq_false (nI_ge hj (by decide))
    rw [f_X11_keep_13]
    simp only [e8, if_false, (ix_ok hs hj).2, dr_cl hj, dr_n0 hj, dr_8 hj, or_self, n0_any (show 8 * s + j < 2147483648 by omega), nI_clamp (show 8 * s + j < 2 ^ 31 by omega), false_or, eq_false (show ¬ 96 ≤ 8 * s + j by omega), nI_1]
    have e0 := cpy_s kHas (fun x => has x &&& 1) (8 * s) 0 j
    have e1 := cpy_s kFst fst (8 * s) 0 j
    have e2 := cpy_s kSnd snd (8 * s) 0 j
    simp only [Nat.zero_add] at e0 e1 e2
    rw [e0, e1, e2]
    exact ih (j + 1) (by omega) k (by omega)
theorem pop_loop (N : Nat) {s : Nat} (hs : s < 12) (pA pB kA kB kF : Nat → Int32) : ∀ m j, j + m = 8 → ∀ k, m < k → f_X0_popState_31 N k (nI j) (nI s) (cpy pA kA 0 (8 * s) j) (cpy pB kB 0 (8 * s) j) kA kB kF = some (1, kF s, nI s, cpy pA kA 0 (8 * s) 8, cpy pB kB 0 (8 * s) 8) := by
  intro m
  induction m with
  | zero =>
    intro j hj k hk
    obtain rfl : j = 8 := by omega
    obtain ⟨k, rfl⟩ : ∃ k', k = k' + 1 := ⟨k - 1, by omega⟩
    have e88 : ((8 : Int32) ≤ nI 8) = True := eq_true (by decide)
    rw [f_X0_popState_31]
    simp only [e88, if_true, n0_any (show s < 2147483648 by omega), nI_clamp (show s < 2 ^ 31 by omega), false_or, eq_false (show ¬ 12 ≤ s by omega), if_false]
  | succ m ih =>
    intro j hjm k hk
    have hj : j < 8 := by omega
    obtain ⟨k, rfl⟩ : ∃ k', k = k' + 1 := ⟨k - 1, by omega⟩
    have e8 : ((8 : Int32) ≤ nI j) = False := eq_false (nI_ge hj (by decide))
    rw [f_X0_popState_31]
    simp only [e8, if_false, (ix_ok hs hj).1, dr_cl hj, dr_n0 hj, dr_8 hj, or_self, n0_any (show 8 * s + j < 2147483648 by omega), nI_clamp (show 8 * s + j < 2 ^ 31 by omega), false_or, eq_false (show ¬ 96 ≤ 8 * s + j by omega), nI_1]
    have e1 := cpy_s pA kA 0 (8 * s) j
    have e2 := cpy_s pB kB 0 (8 * s) j
    rw [Nat.zero_add] at e1 e2
    rw [e1, e2]
    exact ih (j + 1) (by omega) k (by omega)
theorem undo_loop (N : Nat) {s : Nat} (hs : s < 12) (has kHas fst snd kFst kSnd : Nat → Int32) : ∀ m j, j + m = 8 → ∀ k, m < k → f_X11_undo_21 N k (nI j) (nI s) (cpy has (fun x => kHas x &&& 1) 0 (8 * s) j) kHas (cpy fst kFst 0 (8 * s) j) (cpy snd kSnd 0 (8 * s) j) kFst kSnd = some (nI s, nI s, cpy has (fun x => kHas x &&& 1) 0 (8 * s) 8, cpy fst kFst 0 (8 * s) 8, cpy snd kSnd 0 (8 * s) 8) := by
  intro m
  induction m with
  | zero =>
    intro j hj k hk
    obtain rfl : j = 8 := by omega
    obtain ⟨k, rfl⟩ : ∃ k', k = k' + 1 := ⟨k - 1, by omega⟩
    have e88 : ((8 : Int32) ≤ nI 8) = True := eq_true (by decide)
    rw [f_X11_undo_21]
    simp only [e88, if_true]
  | succ m ih =>
    intro j hjm k hk
    have hj : j < 8 := by omega
    obtain ⟨k, rfl⟩ : ∃ k', k = k' + 1 := ⟨k - 1, by omega⟩
    have e8 : ((8 : Int32) ≤ nI j) = False := eq_false (nI_ge hj (by decide))
    rw [f_X11_undo_21]
    simp only [e8, if_false, (ix_ok hs hj).2, dr_cl hj, dr_n0 hj, dr_8 hj, or_self, n0_any (show 8 * s + j < 2147483648 by omega), nI_clamp (show 8 * s + j < 2 ^ 31 by omega), false_or, eq_false (show ¬ 96 ≤ 8 * s + j by omega), nI_1]
    have e0 := cpy_s has (fun x => kHas x &&& 1) 0 (8 * s) j
    have e1 := cpy_s fst kFst 0 (8 * s) j
    have e2 := cpy_s snd kSnd 0 (8 * s) j
    simp only [Nat.zero_add] at e0 e1 e2
    rw [e0, e1, e2]
    exact ih (j + 1) (by omega) k (by omega)
theorem q_keep (N : Nat) (hN : 1048576 ≤ N)  (m_drawers_full m_drawers_kept : Int32) (m_drawers_partA m_drawers_partB m_drawers_keptA m_drawers_keptB m_drawers_keptFull : Nat → Int32) (m_tape_size : Int32) (m_tape_bytes : Nat → Int32) (m_primes_count : Int32) (m_primes_primeA m_primes_primeB : Nat → Int32) (m_taped m_states m_listed : Int32) (m_tape m_has m_keptHas m_first m_second m_keptFirst m_keptSecond m_la0 m_lb0 : Nat → Int32) (hR : kR m_drawers_full m_drawers_kept m_drawers_partA m_drawers_partB m_drawers_keptA m_drawers_keptB m_drawers_keptFull m_tape_size m_tape_bytes m_primes_count m_primes_primeA m_primes_primeB m_taped m_tape m_has m_keptHas m_first m_second m_keptFirst m_keptSecond m_states m_la0 m_lb0 m_listed) : ∃ (y : Int32 × Int32 × (Nat → Int32) × (Nat → Int32) × (Nat → Int32)) (z : Int32 × Int32 × (Nat → Int32) × (Nat → Int32) × (Nat → Int32)), f_X10_keep N m_drawers_full m_drawers_kept m_drawers_partA m_drawers_partB m_drawers_keptA m_drawers_keptB m_drawers_keptFull = some y ∧ f_X11_keep N m_states m_has m_keptHas m_first m_second m_keptFirst m_keptSecond = some z ∧ y.1 = z.1 ∧ kR m_drawers_full y.2.1 m_drawers_partA m_drawers_partB y.2.2.1 y.2.2.2.1 y.2.2.2.2 m_tape_size m_tape_bytes m_primes_count m_primes_primeA m_primes_primeB m_taped m_tape m_has z.2.2.1 m_first m_second z.2.2.2.1 z.2.2.2.2 z.2.1 m_la0 m_lb0 m_listed := by
  have hR0 := hR
  obtain ⟨⟨dr, hD⟩, ⟨kn, ks, hk, rfl, rfl, hK⟩, hT, hP⟩ := hR
  unfold f_X10_keep f_X11_keep f_X0_pushState
  rw [if_neg (nI_pos (by omega))]
  by_cases h : kn < 12
  · have e12 : nI kn < 12 := nI_lt (b := 12) h (by decide)
    have n12 : ¬ nI kn = 12 := fun z => by
      have := (nI_eq (b := 12) (by omega) (by decide)).mp z
      omega
    rw [if_pos e12, if_neg n12]
    have h1 := push_loop N h m_drawers_full m_drawers_partA m_drawers_partB m_drawers_keptA m_drawers_keptB m_drawers_keptFull 8 0 rfl N (by omega)
    have h2 := keep_loop N h m_has m_keptHas m_first m_second m_keptFirst m_keptSecond 8 0 rfl N (by omega)
    simp only [cpy_0, nI_0] at h1 h2
    rw [h1, h2, Option.bind_some]
    simp only [z10, if_false]
    refine ⟨_, _, rfl, rfl, rfl, ⟨dr, hD⟩, ⟨kn + 1, fun s => if s = kn then dr else ks s, by omega, rfl, rfl, ?_⟩, hT, hP⟩
    intro s hs
    by_cases e : s = kn
    · subst e
      simp only [if_true, upd]
      refine kRow_congr hD ?_
      intro d hd
      have a0 := kRow_and hD hd
      refine ⟨cpy_in _ _ _ _ hd, cpy_in _ _ _ _ hd, ?_, cpy_in _ _ _ _ hd, cpy_in _ _ _ _ hd⟩
      rw [cpy_in _ _ _ _ hd]; exact a0
    · have hs' : s < kn := by omega
      simp only [e, if_false, upd]
      refine kRow_congr (hK s hs') ?_
      intro d hd
      exact ⟨cpy_out _ _ _ _ (by omega), cpy_out _ _ _ _ (by omega), cpy_out _ _ _ _ (by omega), cpy_out _ _ _ _ (by omega), cpy_out _ _ _ _ (by omega)⟩
  · obtain rfl : kn = 12 := by omega
    rw [if_neg (by decide), if_pos (show nI 12 = 12 from rfl), Option.bind_some, if_pos rfl]
    exact ⟨_, _, rfl, rfl, rfl, hR0⟩
theorem q_undo (N : Nat) (hN : 1048576 ≤ N)  (m_drawers_full m_drawers_kept : Int32) (m_drawers_partA m_drawers_partB m_drawers_keptA m_drawers_keptB m_drawers_keptFull : Nat → Int32) (m_tape_size : Int32) (m_tape_bytes : Nat → Int32) (m_primes_count : Int32) (m_primes_primeA m_primes_primeB : Nat → Int32) (m_taped m_states m_listed : Int32) (m_tape m_has m_keptHas m_first m_second m_keptFirst m_keptSecond m_la0 m_lb0 : Nat → Int32) (hR : kR m_drawers_full m_drawers_kept m_drawers_partA m_drawers_partB m_drawers_keptA m_drawers_keptB m_drawers_keptFull m_tape_size m_tape_bytes m_primes_count m_primes_primeA m_primes_primeB m_taped m_tape m_has m_keptHas m_first m_second m_keptFirst m_keptSecond m_states m_la0 m_lb0 m_listed) : ∃ (y : Int32 × Int32 × Int32 × (Nat → Int32) × (Nat → Int32)) (z : Int32 × Int32 × (Nat → Int32) × (Nat → Int32) × (Nat → Int32)), f_X10_undo N m_drawers_full m_drawers_kept m_drawers_partA m_drawers_partB m_drawers_keptA m_drawers_keptB m_drawers_keptFull = some y ∧ f_X11_undo N m_states m_has m_keptHas m_first m_second m_keptFirst m_keptSecond = some z ∧ y.1 = z.1 ∧ kR y.2.1 y.2.2.1 y.2.2.2.1 y.2.2.2.2 m_drawers_keptA m_drawers_keptB m_drawers_keptFull m_tape_size m_tape_bytes m_primes_count m_primes_primeA m_primes_primeB m_taped m_tape z.2.2.1 m_keptHas z.2.2.2.1 z.2.2.2.2 m_keptFirst m_keptSecond z.2.1 m_la0 m_lb0 m_listed := by
  have hR0 := hR
  obtain ⟨⟨dr, hD⟩, ⟨kn, ks, hk, rfl, rfl, hK⟩, hT, hP⟩ := hR
  unfold f_X10_undo f_X11_undo f_X0_popState
  by_cases h : kn = 0
  · subst h
    rw [if_pos (by decide), if_pos (show nI 0 = 0 from rfl), Option.bind_some, if_pos rfl]
    exact ⟨_, _, rfl, rfl, rfl, hR0⟩
  · obtain ⟨s, rfl⟩ : ∃ s, kn = s + 1 := ⟨kn - 1, by omega⟩
    have e12 : nI (s + 1) ≤ 12 := nI_le (b := 12) hk (by decide)
    rw [if_neg (show ¬ nI (s + 1) < 1 from nI_nlt (b := 1) (by omega) (by omega)), if_pos e12, if_neg (nI_ne0 (by omega) (by omega)), nI_pred]
    have h1 := pop_loop N (show s < 12 by omega) m_drawers_partA m_drawers_partB m_drawers_keptA m_drawers_keptB m_drawers_keptFull 8 0 rfl N (by omega)
    have h2 := undo_loop N (show s < 12 by omega) m_has m_keptHas m_first m_second m_keptFirst m_keptSecond 8 0 rfl N (by omega)
    simp only [cpy_0, nI_0] at h1 h2
    rw [h1, h2, Option.bind_some]
    simp only [z10, if_false]
    refine ⟨_, _, rfl, rfl, rfl, ⟨ks s, ?_⟩, ⟨s, ks, by omega, rfl, rfl, fun t ht => hK t (by omega)⟩, hT, hP⟩
    refine kRow_congr (hK s (by omega)) ?_
    intro d hd
    have a0 := kRow_and (hK s (by omega)) hd
    refine ⟨cpy_in _ _ _ _ hd, cpy_in _ _ _ _ hd, ?_, cpy_in _ _ _ _ hd, cpy_in _ _ _ _ hd⟩
    exact (cpy_in m_has (fun x => m_keptHas x &&& 1) 0 (8 * s) hd).trans a0
/-! ===== drawn ===== -/
theorem and16 (v : Int32) : ∃ n : Nat, n < 65536 ∧ v &&& 65535 = nI n := by
  refine ⟨(v &&& 65535).toBitVec.toNat, ?_, ?_⟩
  · rw [Int32.toBitVec_and, BitVec.toNat_and]
    exact Nat.lt_of_le_of_lt Nat.and_le_right (by decide)
  · apply Int32.toBitVec_inj.mp
    show _ = BitVec.ofNat 32 _
    rw [BitVec.ofNat_toNat]; rfl
theorem and16n {m : Nat} (h : m < 2147483648) : nI m &&& 65535 = nI (m % 65536) := by
  apply Int32.toBitVec_inj.mp
  apply BitVec.eq_of_toNat_eq
  rw [Int32.toBitVec_and, BitVec.toNat_and]
  show (BitVec.ofNat 32 m).toNat &&& 65535 = (BitVec.ofNat 32 (m % 65536)).toNat
  rw [BitVec.toNat_ofNat, BitVec.toNat_ofNat, Nat.mod_eq_of_lt (show m < 2 ^ 32 by omega), Nat.mod_eq_of_lt (show m % 65536 < 2 ^ 32 by omega)]
  exact Nat.and_two_pow_sub_one_eq_mod m 16
theorem iI_mod {a m : Int} (h0 : 0 ≤ a) (ha : b32 a) (hm : b32 m) : iI a - iI a / iI m * iI m = iI (a % m) := by
  rw [iI_rem ha hm, Int.tmod_eq_emod_of_nonneg h0]
theorem iI_dv {a m : Int} (h0 : 0 ≤ a) (ha : b32 a) (hm : b32 m) : iI a / iI m = iI (a / m) := by
  rw [iI_div ha hm, Int.tdiv_eq_ediv_of_nonneg h0]
/-- the next draw -/
def nxt (n : Nat) : Nat := (25173 * n + 13849) % 65536
theorem nxt_lt (n : Nat) : nxt n < 65536 := Nat.mod_lt _ (by decide)
theorem nxt_lin (n : Nat) : (25173 : Int32) * nI n + 13849 = nI (25173 * n + 13849) := by
  have e1 : (25173 : Int32) = iI 25173 := rfl
  have e2 : (13849 : Int32) = iI 13849 := rfl
  rw [iI_nI, iI_nI, e1, e2, iI_mul, iI_add]; congr 1
theorem s_next {n : Nat} (h : n < 65536) : f_X10_nextDraw (nI n) = some (nI (nxt n)) := by
  unfold f_X10_nextDraw
  rw [nxt_lin, and16n (by omega)]; rfl
theorem s_draw {n : Nat} (h : n < 65536) {f : Int} (h1 : 1 ≤ f) (h2 : f ≤ 1000) : f_X11_draw (iI (2 * f + 1)) (nI n) = some (iI ((nxt n / 4 : Nat) % (2 * f + 1)), nI (nxt n)) := by
  have e3 : (65536 : Int32) = iI 65536 := rfl
  have hn := nxt_lt n
  have e4 : ((25173 * n + 13849 : Nat) : Int) % 65536 = (nxt n : Int) := by unfold nxt; omega
  have bm : b32 (2 * f + 1) := ⟨by omega, by omega⟩
  unfold f_X11_draw
  rw [if_neg (by rw [iI_0 bm]; omega), nxt_lin, iI_nI, e3, iI_mod (by omega) ⟨by omega, by omega⟩ ⟨by omega, by omega⟩, e4, i4, iI_dv (by omega) ⟨by omega, by omega⟩ ⟨by omega, by omega⟩, iI_mod (by omega) ⟨by omega, by omega⟩ bm, iI_nI]
  rfl
theorem q_drawn (N : Nat) (hN : 1048576 ≤ N) (v1 v2 v3 : Int32) (m_drawers_full m_drawers_kept : Int32) (m_drawers_partA m_drawers_partB m_drawers_keptA m_drawers_keptB m_drawers_keptFull : Nat → Int32) (m_tape_size : Int32) (m_tape_bytes : Nat → Int32) (m_primes_count : Int32) (m_primes_primeA m_primes_primeB : Nat → Int32) (m_taped m_states m_listed m_seedNow : Int32) (m_tape m_has m_keptHas m_first m_second m_keptFirst m_keptSecond m_la0 m_lb0 : Nat → Int32) (hR : kR m_drawers_full m_drawers_kept m_drawers_partA m_drawers_partB m_drawers_keptA m_drawers_keptB m_drawers_keptFull m_tape_size m_tape_bytes m_primes_count m_primes_primeA m_primes_primeB m_taped m_tape m_has m_keptHas m_first m_second m_keptFirst m_keptSecond m_states m_la0 m_lb0 m_listed) : ∃ (y : Int32 × Int32 × (Nat → Int32) × (Nat → Int32)) (z : Int32 × Int32 × (Nat → Int32) × (Nat → Int32) × (Nat → Int32)), f_X10_drawn v1 v2 v3 m_drawers_full m_drawers_partA m_drawers_partB = some y ∧ f_X11_drawn v1 v2 v3 m_seedNow m_has m_first m_second = some z ∧ y.1 = z.1 ∧ kR y.2.1 m_drawers_kept y.2.2.1 y.2.2.2 m_drawers_keptA m_drawers_keptB m_drawers_keptFull m_tape_size m_tape_bytes m_primes_count m_primes_primeA m_primes_primeB m_taped m_tape z.2.2.1 m_keptHas z.2.2.2.1 z.2.2.2.2 m_keptFirst m_keptSecond m_states m_la0 m_lb0 m_listed := by
  have hR0 := hR
  obtain ⟨⟨dr, hD⟩, hK, hT, hP⟩ := hR
  obtain ⟨f, hf, rfl⟩ := iI_of v3
  have hin : f_X11_in (iI f).toInt64 1 1000 = some (if 1 ≤ f ∧ f ≤ 1000 then 1 else 0) := s_in32 hf (l := 1) (h := 1000) ⟨by decide, by decide⟩ ⟨by decide, by decide⟩
  have hle : iI f ≤ 1000 ↔ f ≤ 1000 := iI_le hf (b := 1000) ⟨by decide, by decide⟩
  have hlt : iI f < 1 ↔ f < 1 := iI_lt hf (b := 1) ⟨by decide, by decide⟩
  rcases dr_cases v1 with h | ⟨j, hj, rfl⟩
  · simp only [f_X10_drawn, f_X11_drawn, Option.bind_some, (dr_out h).1, (dr_out h).2, z00, if_true]
    exact ⟨_, _, rfl, rfl, rfl, hR0⟩
  · simp only [f_X10_drawn, f_X11_drawn, Option.bind_some, (dr_in hj).1, (dr_in hj).2, z10, if_false, hin, hle, hlt]
    by_cases c : 1 ≤ f ∧ f ≤ 1000
    · rw [if_neg (show ¬ f < 1 by omega), if_pos c.2]
      obtain ⟨c1, c2⟩ := c
      obtain ⟨n, hn, en⟩ := and16 v2
      have n1 := nxt_lt n
      have n2 := nxt_lt (nxt n)
      have bm : b32 (2 * f + 1) := ⟨by omega, by omega⟩
      have es : (2 : Int32) * iI f + 1 = iI (2 * f + 1) := by rw [i2, i1, iI_mul, iI_add]
      have ez : (iI (2 * f + 1) = 0) = False := eq_false (by rw [iI_0 bm]; omega)
      have q1 : ∀ x : Nat, x < 65536 → (nI x / 4 - nI x / 4 / iI (2 * f + 1) * iI (2 * f + 1)) = iI ((x / 4 : Nat) % (2 * f + 1)) := by
        intro x hx
        rw [iI_nI, i4, iI_dv (by omega) ⟨by omega, by omega⟩ ⟨by omega, by omega⟩, iI_mod (by omega) ⟨by omega, by omega⟩ bm]; rfl
      have m1 := Int.emod_nonneg ((nxt n / 4 : Nat) : Int) (show 2 * f + 1 ≠ 0 by omega)
      have m2 := Int.emod_lt_of_pos ((nxt n / 4 : Nat) : Int) (show 0 < 2 * f + 1 by omega)
      have m3 := Int.emod_nonneg ((nxt (nxt n) / 4 : Nat) : Int) (show 2 * f + 1 ≠ 0 by omega)
      have m4 := Int.emod_lt_of_pos ((nxt (nxt n) / 4 : Nat) : Int) (show 0 < 2 * f + 1 by omega)
      have hc : (1 ≤ f ∧ f ≤ 1000) = True := eq_true ⟨c1, c2⟩
      simp only [hc, if_true, z10, if_false, en, s_next hn, s_next n1, es, ez, Option.bind_some, s_draw hn c1 c2, s_draw n1 c1 c2, q1 _ n1, q1 _ n2, iI_sub, s_fill hj, s_puts hj]
      rw [iI_l ⟨by omega, by omega⟩, iI_l ⟨by omega, by omega⟩, lI_i, lI_i]
      refine ⟨_, _, rfl, rfl, rfl, ⟨_, kRow_fill hD hj ?_⟩, hK, hT, hP⟩
      exact ⟨by omega, by omega, by omega, by omega⟩
    · simp only [c, if_false, z00, if_true]
      by_cases c2 : f < 1
      · rw [if_pos c2]; exact ⟨_, _, rfl, rfl, rfl, hR0⟩
      · rw [if_neg c2, if_neg (by omega)]; exact ⟨_, _, rfl, rfl, rfl, hR0⟩
