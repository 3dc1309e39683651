/-! ===== what a state of the class and one of the reference have in common ===== -/
/-- a number of the document: its parts within their bounds -/
def kNum (a b : Int) : Prop := -9999 ≤ a ∧ a ≤ 9999 ∧ -9999 ≤ b ∧ b ≤ 9999
/-- one set of drawers: the class's bits and rows (from place o on), the reference's rows -/
def kRow (full : Int32) (pA pB has fst snd : Nat → Int32) (o : Nat) (dr : Nat → Option (Int × Int)) : Prop :=
  ∃ F : Nat, F < 256 ∧ full = nI F ∧ ∀ d : Nat, d < 8 → F.testBit d = (dr d).isSome ∧ has (o + d) = (if (dr d).isSome then 1 else 0) ∧ ∀ a b : Int, dr d = some (a, b) → kNum a b ∧ pA (o + d) = Int32.ofInt a ∧ pB (o + d) = Int32.ofInt b ∧ fst (o + d) = Int32.ofInt a ∧ snd (o + d) = Int32.ofInt b
def kRk (kept : Int32) (kA kB kF kHas kFst kSnd : Nat → Int32) (states : Int32) (kn : Nat) (ks : Nat → Nat → Option (Int × Int)) : Prop :=
  kn ≤ 12 ∧ kept = nI kn ∧ states = nI kn ∧ ∀ s : Nat, s < kn → kRow (kF s) kA kB kHas kFst kSnd (8 * s) (ks s)
def kRt (size : Int32) (bytes : Nat → Int32) (taped : Int32) (tape : Nat → Int32) (tn : Nat) (tp : Nat → Nat) : Prop :=
  tn ≤ 80 ∧ size = nI tn ∧ taped = nI tn ∧ ∀ i : Nat, i < tn → tp i < 256 ∧ bytes i = nI (tp i) ∧ tape i = (nI (tp i)).toInt8.toInt32
/-- whole primes up to 2000 -/
def pl_prime (n : Nat) : Bool := decide (2 ≤ n) && (List.range 45).all (fun d => decide (d < 2) || decide (n < d * d) || decide (n % d ≠ 0))
/-- of a prime 3 k + 1 the primary number of that norm with b above 0, by the least b -/
def pl_split (n : Nat) : Int × Int :=
  match ((List.range 18).flatMap (fun j => (List.range 90).filterMap (fun s => if s * s + 3 * (3 * (j + 1)) * (3 * (j + 1)) = 4 * n then some (3 * (j + 1), s) else none))).head? with
  | some (b, s) => if ((b + s) / 2) % 3 = 2 then (((b + s) / 2 : Nat), (b : Nat)) else ((b : Int) - ((b + s) / 2 : Nat), (b : Nat))
  | none => (0, 0)
/-- the primary primes of norm n -/
def pl_at (n : Nat) : List (Int × Int) :=
  if pl_prime n && decide (n % 3 = 1) then [((pl_split n).1 - (pl_split n).2, -(pl_split n).2), pl_split n]
  else ((List.range 45).filter (fun q => decide (q * q = n) && decide (q % 3 = 2) && pl_prime q)).map (fun (q : Nat) => ((q : Int), (0 : Int)))
/-- all of norm 2000 at most, in their order -/
def kPL : List (Int × Int) := (List.range 1997).flatMap (fun i => pl_at (i + 4))
/-- the list of primary primes: the reference's, and the class's once it is made -/
def kRp (pc : Int32) (prA prB la0 lb0 : Nat → Int32) (listed : Int32) : Prop :=
  listed = nI kPL.length ∧ (∀ k : Nat, k < kPL.length → la0 k = Int32.ofInt (kPL.getD k (0, 0)).1 ∧ lb0 k = Int32.ofInt (kPL.getD k (0, 0)).2) ∧ (pc = 0 ∨ (pc = nI kPL.length ∧ ∀ k : Nat, k < kPL.length → prA k = Int32.ofInt (kPL.getD k (0, 0)).1 ∧ prB k = Int32.ofInt (kPL.getD k (0, 0)).2))
def kR (full kept : Int32) (pA pB kA kB kF : Nat → Int32) (size : Int32) (bytes : Nat → Int32) (pc : Int32) (prA prB : Nat → Int32) (taped : Int32) (tape has kHas fst snd kFst kSnd : Nat → Int32) (states : Int32) (la0 lb0 : Nat → Int32) (listed : Int32) : Prop :=
  (∃ dr : Nat → Option (Int × Int), kRow full pA pB has fst snd 0 dr) ∧ (∃ (kn : Nat) (ks : Nat → Nat → Option (Int × Int)), kRk kept kA kB kF kHas kFst kSnd states kn ks) ∧ (∃ (tn : Nat) (tp : Nat → Nat), kRt size bytes taped tape tn tp) ∧ kRp pc prA prB la0 lb0 listed
