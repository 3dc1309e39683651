/-! ===== the signs by a whole prime, on both sides ===== -/
theorem kthird {p : Nat} (h7 : 7 ≤ p) (hp : p ≤ 997) : (iI (p : Int) - (1 : Int32)) / (3 : Int32) = iI (((p - 1) / 3 : Nat) : Int) := by
  have : iI (p : Int) - (1 : Int32) = iI ((p - 1 : Nat) : Int) := by
    rw [show (1 : Int32) = iI 1 from rfl, iI_sub]
    exact congrArg iI (by omega)
  rw [this]
  exact i_div (q := 3) (by omega) (by decide)
section MKS
variable {p w u v : Nat} {a b : Int}
theorem ls_loop {N : Nat} (hN : 1048576 ≤ N) (h7 : 7 ≤ p) (hp : p ≤ 997) (hw : w < p) : ∀ (j n : Nat), 1 ≤ n → n + j = p → ∀ (f : Nat) (ra rb : Int64) (S : Nat → Int32), j < f → (∀ i, 1 ≤ i → i < n → S i = nI (sgv p w i)) → ∃ S', f_X11_laysSigns_46 N f (iI p) (iI w) (nI n) ra rb S = some (ra, rb, S') ∧ ∀ i, 1 ≤ i → i < p → S' i = nI (sgv p w i) := by
  intro j
  induction j with
  | zero =>
    intro n hn hnj f ra rb S hf hS
    obtain ⟨f, rfl⟩ : ∃ f', f = f' + 1 := ⟨f - 1, by omega⟩
    obtain rfl : n = p := by omega
    exact ⟨S, by rw [f_X11_laysSigns_46, ← iI_nI, if_pos (nI_le (Nat.le_refl _) (by omega))], hS⟩
  | succ j ih =>
    intro n hn hnj f ra rb S hf hS
    obtain ⟨f, rfl⟩ : ∃ f', f = f' + 1 := ⟨f - 1, by omega⟩
    obtain ⟨X, hX⟩ : ∃ X, X = n ^ ((p - 1) / 3) % p := ⟨_, rfl⟩
    have Xl : X < p := by rw [hX]; exact Nat.mod_lt _ (by omega)
    have pw : f_X11_powerBy N (nI n) ((iI (p : Int) - (1 : Int32)) / (3 : Int32)) (iI p) = some (iI (X : Int)) := by
      rw [iI_nI, kthird h7 hp, s_powerBy hN (by omega) hp (by omega) (by omega), hX]
    have ge : ¬ iI (p : Int) ≤ nI n := by rw [← iI_nI]; exact nI_ge (by omega) (by omega)
    have ok : ¬ (nI n < 0 ∨ 997 ≤ (nI n).toNatClampNeg) := nI_in (by omega) (by decide)
    have o1 : (iI (X : Int) = (1 : Int32)) ↔ X = 1 := by
      have := iI_eq (a := (X : Int)) (b := 1) ⟨by omega, by omega⟩ ⟨by decide, by decide⟩
      exact ⟨fun q => by have := this.mp q; omega, fun q => this.mpr (by omega)⟩
    have o2 : (iI (X : Int) = iI (w : Int)) ↔ X = w := by
      have := iI_eq (a := (X : Int)) (b := (w : Int)) ⟨by omega, by omega⟩ ⟨by omega, by omega⟩
      exact ⟨fun q => by have := this.mp q; omega, fun q => this.mpr (by omega)⟩
    have nx : ∀ s : Nat, sgv p w n = s → ∀ i, 1 ≤ i → i < n + 1 → upd S n (nI s) i = nI (sgv p w i) := by
      intro s hs i h1 h2
      unfold upd
      by_cases c : i = n
      · rw [if_pos c, c, hs]
      · rw [if_neg c]; exact hS i h1 (by omega)
    have sd : sgv p w n = if X = 1 then 0 else if X = w then 1 else 2 := by unfold sgv; rw [hX]
    rw [f_X11_laysSigns_46, if_neg ge, pw, Option.bind_some, nI_1]
    by_cases c1 : X = 1
    · rw [if_pos (o1.mpr c1), if_neg ok, nI_clamp (by omega)]
      exact ih (n + 1) (by omega) (by omega) f ra rb _ (by omega) (nx 0 (by rw [sd, if_pos c1]))
    · rw [if_neg (fun q => c1 (o1.mp q))]
      by_cases c2 : X = w
      · rw [if_pos (o2.mpr c2), if_neg ok, nI_clamp (by omega)]
        exact ih (n + 1) (by omega) (by omega) f ra rb _ (by omega) (nx 1 (by rw [sd, if_neg c1, if_pos c2]))
      · rw [if_neg (fun q => c2 (o2.mp q)), if_neg ok, nI_clamp (by omega)]
        exact ih (n + 1) (by omega) (by omega) f ra rb _ (by omega) (nx 2 (by rw [sd, if_neg c1, if_neg c2]))
def minv (p w : Nat) (A : Nat → Int32) : Prop := ∀ i, 1 ≤ i → i < p → (sgv p w i = 0 ∧ A i = 0) ∨ (sgv p w i ≠ 0 ∧ (A i = 3 ∨ A i = nI (sgv p w i)))
def mcov (p w u : Nat) (A : Nat → Int32) (n : Nat) : Prop := ∀ c, 1 ≤ c → c < n → sgv p w c = 0 → A (c * u % p) ≠ 3 ∧ A (c * u * u % p) ≠ 3
theorem sgv_0 {t : Nat} (h : sgv p w t = 0) : t ^ ((p - 1) / 3) % p = 1 := by
  unfold sgv at h
  by_cases c : t ^ ((p - 1) / 3) % p = 1
  · exact c
  · rw [if_neg c] at h
    by_cases c2 : t ^ ((p - 1) / 3) % p = w
    · rw [if_pos c2] at h; omega
    · rw [if_neg c2] at h; omega
theorem ms_loop {N : Nat} (hN : 1048576 ≤ N) (h7 : 7 ≤ p) (hp : p ≤ 997) (h : wOf p a b w) (hv : v = 1 ∨ v = 2) (hu' : u < p) (hu : u ^ ((p - 1) / 3) % p = if v = 1 then w else w * w % p) (z1 z2 z3 z4 z5 z6 z7 z8 z9 z10 z11 z12 z13 : Int64) : ∀ (j n : Nat), 1 ≤ n → n + j = p → ∀ (f : Nat) (A : Nat → Int32), j < f → minv p w A → mcov p w u A n → ∃ A', f_X10_markSigns_47 N f (iI p) (lI u) (nI v) (nI n) z1 z2 z3 z4 z5 z6 z7 z8 z9 z10 z11 z12 z13 A = some (z1, z2, z3, z4, z5, z6, z7, z8, z9, z10, z11, z12, z13, A') ∧ minv p w A' ∧ mcov p w u A' p := by
  have v3 : (3 : Int32) - nI v = nI (3 - v) := by rcases hv with rfl | rfl <;> decide
  have vn : nI v ≠ 3 ∧ nI (3 - v) ≠ 3 := by rcases hv with rfl | rfl <;> exact ⟨by decide, by decide⟩
  intro j
  induction j with
  | zero =>
    intro n hn hnj f A hf hA hc
    obtain ⟨f, rfl⟩ : ∃ f', f = f' + 1 := ⟨f - 1, by omega⟩
    obtain rfl : n = p := by omega
    exact ⟨A, by rw [f_X10_markSigns_47, ← iI_nI, if_pos (nI_le (Nat.le_refl _) (by omega))], hA, hc⟩
  | succ j ih =>
    intro n hn hnj f A hf hA hc
    obtain ⟨f, rfl⟩ : ∃ f', f = f' + 1 := ⟨f - 1, by omega⟩
    have ge : ¬ iI (p : Int) ≤ nI n := by rw [← iI_nI]; exact nI_ge (by omega) (by omega)
    rw [f_X10_markSigns_47, if_neg ge, s_markAt (by omega), Option.bind_some, nI_1]
    by_cases c0 : A n = 0
    · have s0 : sgv p w n = 0 := by
        rcases hA n hn (by omega) with q | q
        · exact q.1
        · rcases q.2 with z | z
          · rw [c0] at z; exact absurd z (by decide)
          · rw [c0] at z
            have : sgv p w n ≤ 2 := by
              unfold sgv
              split
              · omega
              · split <;> omega
            exact absurd z.symm (nI_ne0 (by omega) (by omega))
      obtain ⟨m1, m2⟩ := sgv_mul h7 h hv hu (sgv_0 s0)
      have l1' := Nat.mod_lt (n * u) (show 0 < p by omega)
      have l2' := Nat.mod_lt (n * u * u) (show 0 < p by omega)
      have nu : n * u ≤ 997 * 997 := Nat.mul_le_mul (by omega) (by omega)
      have nuu : n * u * u ≤ 997 * 997 * 997 := Nat.mul_le_mul nu (by omega)
      have ln : (nI n).toInt64 = lI (n : Int) := by rw [iI_nI, iI_l ⟨by omega, by omega⟩]
      have lp : (iI (p : Int)).toInt64 = lI (p : Int) := iI_l ⟨by omega, by omega⟩
      have f1 : f_J9_floorMod_f86c9 (lI ((n : Int) * u)) (lI (p : Int)) = some (lI ((n * u % p : Nat) : Int)) := by
        rw [← nmodZ, Int.natCast_mul]
        refine s_floorMod ?_ (by omega) ⟨by omega, by omega⟩
        rw [← Int.natCast_mul]
        exact ⟨by omega, by omega⟩
      have f2 : f_J9_floorMod_f86c9 (lI ((n : Int) * u * u)) (lI (p : Int)) = some (lI ((n * u * u % p : Nat) : Int)) := by
        rw [← nmodZ, Int.natCast_mul, Int.natCast_mul]
        refine s_floorMod ?_ (by omega) ⟨by omega, by omega⟩
        rw [← Int.natCast_mul, ← Int.natCast_mul]
        exact ⟨by omega, by omega⟩
      rw [if_pos c0, ln, lp, lI_mul, lI_mul, f1, Option.bind_some, lI_i, ← iI_nI, s_mark (by omega), Option.bind_some, f2, Option.bind_some, lI_i, ← iI_nI, v3, s_mark (by omega), Option.bind_some]
      refine ih (n + 1) (by omega) (by omega) f _ (by omega) (fun i h1 h2 => ?_) (fun c h1 h2 h3 => ?_)
      · unfold upd
        by_cases q2 : i = n * u * u % p
        · rw [if_pos q2]; right
          rw [q2, m2]
          exact ⟨by omega, Or.inr rfl⟩
        · rw [if_neg q2]
          by_cases q1 : i = n * u % p
          · rw [if_pos q1]; right
            rw [q1, m1]
            exact ⟨by omega, Or.inr rfl⟩
          · rw [if_neg q1]; exact hA i h1 h2
      · have key : ∀ i, (A i ≠ 3 ∨ i = n * u % p ∨ i = n * u * u % p) → upd (upd A (n * u % p) (nI v)) (n * u * u % p) (nI (3 - v)) i ≠ 3 := by
          intro i hi
          unfold upd
          by_cases q2 : i = n * u * u % p
          · rw [if_pos q2]; exact vn.2
          · rw [if_neg q2]
            by_cases q1 : i = n * u % p
            · rw [if_pos q1]; exact vn.1
            · rw [if_neg q1]
              rcases hi with z | z | z
              · exact z
              · exact absurd z q1
              · exact absurd z q2
        by_cases cn : c = n
        · rw [cn]; exact ⟨key _ (Or.inr (Or.inl rfl)), key _ (Or.inr (Or.inr rfl))⟩
        · obtain ⟨k1, k2⟩ := hc c h1 (by omega) h3
          exact ⟨key _ (Or.inl k1), key _ (Or.inl k2)⟩
    · rw [if_neg c0]
      refine ih (n + 1) (by omega) (by omega) f A (by omega) hA (fun c h1 h2 h3 => ?_)
      by_cases cn : c = n
      · rw [cn] at h3
        rcases hA n hn (by omega) with q | q
        · exact absurd q.2 c0
        · exact absurd h3 q.1
      · exact hc c h1 (by omega) h3
end MKS
