/-! ===== feed ===== -/
theorem byte_of (w : Int32) : ∃ n : Nat, n < 256 ∧ w &&& 255 = nI n ∧ w.toInt8.toInt32.toInt8.toInt32 = (nI n).toInt8.toInt32 := by
  have e : w &&& 255 = nI (w &&& 255).toBitVec.toNat := by
    apply Int32.toBitVec_inj.mp
    show _ = BitVec.ofNat 32 _
    rw [BitVec.ofNat_toNat]; rfl
  refine ⟨(w &&& 255).toBitVec.toNat, ?_, e, ?_⟩
  · rw [Int32.toBitVec_and, BitVec.toNat_and]
    exact Nat.lt_of_le_of_lt Nat.and_le_right (by decide)
  · rw [← e, Int32.toInt8_and]
    have : (255 : Int32).toInt8 = -1 := by decide
    rw [this, Int8.and_neg_one, Int8.toInt8_toInt32]
theorem kRt_byte {bytes tape : Nat → Int32} {tn : Nat} {tp : Nat → Nat} (h : kRt (nI tn) bytes (nI tn) tape tn tp) (ht : tn < 80) {n : Nat} (hn : n < 256) : kRt (nI (tn + 1)) (upd bytes tn (nI n)) (nI (tn + 1)) (upd tape tn (nI n).toInt8.toInt32) (tn + 1) (fun i => if i = tn then n else tp i) := by
  obtain ⟨h1, -, -, h2⟩ := h
  refine ⟨by omega, rfl, rfl, fun i hi => ?_⟩
  by_cases e : i = tn
  · subst e; simp [upd, hn]
  · simp only [upd, e, if_false]; exact h2 i (by omega)
theorem feed1 {N k k' : Nat} {v v2 u2 : Int32} {bytes tape : Nat → Int32} {tn : Nat} {tp : Nat → Nat} (h : kRt (nI tn) bytes (nI tn) tape tn tp) (ht : tn < 80) (c1 : ¬ v2 < 0) (c2 : ¬ u2 < 0) (es : (8 : Int32) * u2 &&& 31 = v2 &&& 31) : ∃ (bytes' tape' : Nat → Int32) (tp' : Nat → Nat), kRt (nI (tn + 1)) bytes' (nI (tn + 1)) tape' (tn + 1) tp' ∧ f_X8_addBytesOf_3 N (k + 1) v v2 (nI tn) bytes = f_X8_addBytesOf_3 N k v (v2 + (-8)) (nI (tn + 1)) bytes' ∧ f_X11_typed4_2 N (k' + 1) v u2 (nI tn) tape = f_X11_typed4_2 N k' v (u2 + (-1)) (nI (tn + 1)) tape' := by
  obtain ⟨n, hn, e1, e2⟩ := byte_of (v >>> (v2 &&& 31))
  refine ⟨_, _, _, kRt_byte h ht hn, ?_, ?_⟩
  · rw [f_X8_addBytesOf_3]
    rw [if_neg c1, if_neg (nI_pos (by omega)), if_neg (show ¬ (80 : Int32) ≤ nI tn from nI_ge (b := 80) ht (by decide)), if_neg (nI_in ht (by decide)), nI_clamp (by omega), nI_1, e1]
  · rw [f_X11_typed4_2]
    rw [if_neg c2, if_neg (nI_in ht (by decide)), nI_clamp (by omega), nI_1, es, e2]
theorem feed4 {N : Nat} (hN : 1048576 ≤ N) (v : Int32) {bytes tape : Nat → Int32} {tn : Nat} {tp : Nat → Nat} (h : kRt (nI tn) bytes (nI tn) tape tn tp) (ht : tn + 4 ≤ 80) : ∃ (bytes' tape' : Nat → Int32) (tp' : Nat → Nat), kRt (nI (tn + 4)) bytes' (nI (tn + 4)) tape' (tn + 4) tp' ∧ f_X8_addBytesOf N v (nI tn) bytes = some (nI (tn + 4), bytes') ∧ f_X11_typed4 N v (nI tn) tape = some (nI (tn + 4), tape') := by
  obtain ⟨M, rfl⟩ : ∃ M, N = M + 5 := ⟨N - 5, by omega⟩
  obtain ⟨b1, t1, p1, h1, e1, g1⟩ := feed1 (N := M + 5) (k := M + 4) (k' := M + 4) (v := v) (v2 := 24) (u2 := 3) h (by omega) (by decide) (by decide) (by decide)
  obtain ⟨b2, t2, p2, h2, e2, g2⟩ := feed1 (N := M + 5) (k := M + 3) (k' := M + 3) (v := v) (v2 := 24 + (-8)) (u2 := 3 + (-1)) h1 (by omega) (by decide) (by decide) (by decide)
  obtain ⟨b3, t3, p3, h3, e3, g3⟩ := feed1 (N := M + 5) (k := M + 2) (k' := M + 2) (v := v) (v2 := 24 + (-8) + (-8)) (u2 := 3 + (-1) + (-1)) h2 (by omega) (by decide) (by decide) (by decide)
  obtain ⟨b4, t4, p4, h4, e4, g4⟩ := feed1 (N := M + 5) (k := M + 1) (k' := M + 1) (v := v) (v2 := 24 + (-8) + (-8) + (-8)) (u2 := 3 + (-1) + (-1) + (-1)) h3 (by omega) (by decide) (by decide) (by decide)
  refine ⟨b4, t4, p4, h4, ?_, ?_⟩
  · unfold f_X8_addBytesOf
    rw [e1, e2, e3, e4, f_X8_addBytesOf_3, if_pos (by decide)]
  · unfold f_X11_typed4
    rw [g1, g2, g3, g4, f_X11_typed4_2, if_pos (by decide)]
theorem q_feed (N : Nat) (hN : 1048576 ≤ N) (v1 v2 v3 v4 v5 : Int32) (m_drawers_full m_drawers_kept : Int32) (m_drawers_partA m_drawers_partB m_drawers_keptA m_drawers_keptB m_drawers_keptFull : Nat → Int32) (m_tape_size : Int32) (m_tape_bytes : Nat → Int32) (m_primes_count : Int32) (m_primes_primeA m_primes_primeB : Nat → Int32) (m_taped m_states m_listed : Int32) (m_tape m_has m_keptHas m_first m_second m_keptFirst m_keptSecond m_la0 m_lb0 : Nat → Int32) (hR : kR m_drawers_full m_drawers_kept m_drawers_partA m_drawers_partB m_drawers_keptA m_drawers_keptB m_drawers_keptFull m_tape_size m_tape_bytes m_primes_count m_primes_primeA m_primes_primeB m_taped m_tape m_has m_keptHas m_first m_second m_keptFirst m_keptSecond m_states m_la0 m_lb0 m_listed) : ∃ (y : Int32 × Int32 × (Nat → Int32)) (z : Int32 × Int32 × (Nat → Int32)), f_X10_feed N v1 v2 v3 v4 v5 m_tape_size m_tape_bytes = some y ∧ f_X11_feed N v1 v2 v3 v4 v5 m_taped m_tape = some z ∧ y.1 = z.1 ∧ kR m_drawers_full m_drawers_kept m_drawers_partA m_drawers_partB m_drawers_keptA m_drawers_keptB m_drawers_keptFull y.2.1 y.2.2 m_primes_count m_primes_primeA m_primes_primeB z.2.1 z.2.2 m_has m_keptHas m_first m_second m_keptFirst m_keptSecond m_states m_la0 m_lb0 m_listed := by
  have hR0 := hR
  obtain ⟨hD, hK, ⟨tn, tp, hT⟩, hP⟩ := hR
  have ht := hT.1
  obtain rfl := hT.2.1
  obtain rfl := hT.2.2.1
  unfold f_X10_feed f_X11_feed f_X8_hasRoomFor
  have ea : nI tn + 20 = nI (tn + 20) := nI_add tn 20
  rw [ea]
  by_cases c : tn + 20 ≤ 80
  · rw [if_neg (show ¬ (80 : Int32) < nI (tn + 20) from nI_nlt (a := 80) c (by decide)), if_pos (show nI (tn + 20) ≤ 80 from nI_le (b := 80) c (by decide)), Option.bind_some, if_neg (by decide)]
    obtain ⟨b1, t1, p1, h1, e1, g1⟩ := feed4 hN v1 hT (by omega)
    obtain ⟨b2, t2, p2, h2, e2, g2⟩ := feed4 hN v2 h1 (by omega)
    obtain ⟨b3, t3, p3, h3, e3, g3⟩ := feed4 hN v3 h2 (by omega)
    obtain ⟨b4, t4, p4, h4, e4, g4⟩ := feed4 hN v4 h3 (by omega)
    obtain ⟨b5, t5, p5, h5, e5, g5⟩ := feed4 hN v5 h4 (by omega)
    simp only [e1, e2, e3, e4, e5, g1, g2, g3, g4, g5, Option.bind_some]
    exact ⟨_, _, rfl, rfl, rfl, hD, hK, ⟨_, _, h5⟩, hP⟩
  · rw [if_pos (show (80 : Int32) < nI (tn + 20) from nI_lt (a := 80) (by omega) (by omega)), if_neg (show ¬ nI (tn + 20) ≤ 80 from nI_ge (a := 80) (by omega) (by omega)), Option.bind_some, if_pos rfl]
    exact ⟨_, _, rfl, rfl, rfl, hR0⟩
