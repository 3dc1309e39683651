/-- the surroundings: program, launch, environment, room, state at the start, method, its arguments, frames below, its record, its code, what is aimed at -/
abbrev KE : Type := Program × Launch × Env × Room × State × MethodId × Array Value × List Frame × Method × Code × (State → Prop) × Nat × Nat
abbrev KE.s (E : KE) : State := E.2.2.2.2.1
abbrev KE.l (E : KE) : Launch := E.2.1
abbrev KT : Type := ClassId × ClassId × ClassId × ClassId
abbrev kx_tys (T : KT) : List (ClassId × FieldType) := [(T.1, .int), (T.2.1, .long), (T.2.2.1, .byte), (T.2.2.2, .boolean)]
def kx_W (E : KE) (H : Heap) (locs : List Loc) (pc : Nat) (ls : Array Slot) (st : List Value) : Prop :=
  W E.1 E.2.1 E.2.2.1 E.2.2.2.1 E.2.2.2.2.1 E.2.2.2.2.2.1 E.2.2.2.2.2.2.1 E.2.2.2.2.2.2.2.1 E.2.2.2.2.2.2.2.2.1 E.2.2.2.2.2.2.2.2.2.1 H locs E.2.2.2.2.2.2.2.2.2.2.2.1 E.2.2.2.2.2.2.2.2.2.2.2.2 E.2.2.2.2.2.2.2.2.2.2.1 (F0 E.2.2.2.2.2.1 pc ls st)
def kx_C (E : KE) (cc : ByteArray) (nL : Nat) (rt : Option FieldType) (own : String) (fr lo : Nat) (D : va_G) (T : KT) : Prop :=
  E.1.tables.exec = Jvm.exec ∧ E.2.2.2.2.2.2.2.2.2.1.code = cc ∧ E.2.2.2.2.2.2.2.2.1.sig.returnType = rt ∧ E.2.2.2.2.2.2.2.2.2.1.maxLocals = nL ∧ E.2.2.2.2.1.vm.findClass own = some E.2.2.2.2.2.1.cls ∧ (∀ w ∈ lw_g, w.before E.2.2.2.2.2.2.1 E.2.2.2.2.1 = true) ∧ va_K D vwCl (kx_tys T) E.2.2.2.2.1 ∧ E.2.2.2.2.2.2.2.2.1.locks = false ∧ E.2.2.2.1.frames = fr ∧ E.2.2.2.1.locals = lo ∧ E.2.2.2.2.2.2.2.2.2.2.2.1 ≤ E.2.2.2.1.cells ∧ E.2.2.2.2.2.2.2.2.2.2.2.2 ≤ E.2.2.2.1.slots
def kx_H (E : KE) (D : va_G) (A : Nat → Prop) (H : Heap) (locs : List Loc) (w : va_W) : Prop :=
  va_P D vwCl w H ∧ va_D A w ∧ va_S A E.2.2.2.2.1.heap H locs ∧ ∀ q : Nat, E.2.2.2.2.1.heap.size ≤ q → A q
section KXR
variable {E : KE} {H : Heap} {locs : List Loc} {pc : Nat} {ls : Array Slot} {rest : List Value} {cc : ByteArray} {nL : Nat} {rt : Option FieldType} {own : String} {fr lo : Nat} {D : va_G} {T : KT} {A : Nat → Prop} {w : va_W}
theorem x_iconst (p2 : Nat) {n : Int} (C : kx_C E cc nL rt own fr lo D T) (d : decode cc pc = .ok (.iconst n, 1)) (v : Int32) (hv : Int32.ofInt n = v) (hp : pc + 1 = p2) (k : kx_W E H locs p2 ls (.int v :: rest)) : kx_W E H locs pc ls (rest) := by
  subst hp
  exact lv_iconst C.1 C.2.1 d hv k
theorem x_bipush (p2 : Nat) {n : Int} (C : kx_C E cc nL rt own fr lo D T) (d : decode cc pc = .ok (.bipush n, 2)) (v : Int32) (hv : (Int8.ofInt n).toInt32 = v) (hp : pc + 2 = p2) (k : kx_W E H locs p2 ls (.int v :: rest)) : kx_W E H locs pc ls (rest) := by
  subst hp
  exact lv_bipush C.1 C.2.1 d hv k
theorem x_sipush (p2 : Nat) {n : Int} (C : kx_C E cc nL rt own fr lo D T) (d : decode cc pc = .ok (.sipush n, 3)) (v : Int32) (hv : (Int16.ofInt n).toInt32 = v) (hp : pc + 3 = p2) (k : kx_W E H locs p2 ls (.int v :: rest)) : kx_W E H locs pc ls (rest) := by
  subst hp
  exact lv_sipush C.1 C.2.1 d hv k
theorem x_lconst (p2 : Nat) {n : Fin 2} (C : kx_C E cc nL rt own fr lo D T) (d : decode cc pc = .ok (.lconst n, 1)) (v : Int64) (hv : Int64.ofNat (n : Nat) = v) (hp : pc + 1 = p2) (k : kx_W E H locs p2 ls (.long v :: rest)) : kx_W E H locs pc ls (rest) := by
  subst hp
  exact lv_lconst C.1 C.2.1 d hv k
theorem x_fconst0 (p2 : Nat) (C : kx_C E cc nL rt own fr lo D T) (d : decode cc pc = .ok (.fconst 0, 1)) (hp : pc + 1 = p2) (k : kx_W E H locs p2 ls (.float 0 :: rest)) : kx_W E H locs pc ls rest := by
  subst hp
  exact lv_fconst0 C.1 C.2.1 d k
theorem x_fconst1 (p2 : Nat) (C : kx_C E cc nL rt own fr lo D T) (d : decode cc pc = .ok (.fconst 1, 1)) (hp : pc + 1 = p2) (k : kx_W E H locs p2 ls (.float 0x3f800000 :: rest)) : kx_W E H locs pc ls rest := by
  subst hp
  exact lv_fconst1 C.1 C.2.1 d k
theorem x_fconst2 (p2 : Nat) (C : kx_C E cc nL rt own fr lo D T) (d : decode cc pc = .ok (.fconst 2, 1)) (hp : pc + 1 = p2) (k : kx_W E H locs p2 ls (.float 0x40000000 :: rest)) : kx_W E H locs pc ls rest := by
  subst hp
  exact lv_fconst2 C.1 C.2.1 d k
theorem x_iload_n (p2 : Nat) {j : Fin 4} (C : kx_C E cc nL rt own fr lo D T) (d : decode cc pc = .ok (.iload_n j, 1)) {x : Int32} {lv : List (Nat × Value)} (hl : lv_has ls nL lv) (i : Nat) (hi : lv[i]? = some ((j : Nat), .int x)) (hp : pc + 1 = p2) (k : kx_W E H locs p2 ls (.int x :: rest)) : kx_W E H locs pc ls (rest) := by
  subst hp
  exact lv_iload_n C.1 C.2.1 d rfl (lv_at hl i hi) k
theorem x_iload (p2 : Nat) {j : Nat} (C : kx_C E cc nL rt own fr lo D T) (d : decode cc pc = .ok (.iload j, 2)) {x : Int32} {lv : List (Nat × Value)} (hl : lv_has ls nL lv) (i : Nat) (hi : lv[i]? = some (j, .int x)) (hp : pc + 2 = p2) (k : kx_W E H locs p2 ls (.int x :: rest)) : kx_W E H locs pc ls (rest) := by
  subst hp
  exact lv_iload C.1 C.2.1 d (lv_at hl i hi) k
theorem x_lload_n (p2 : Nat) {j : Fin 4} (C : kx_C E cc nL rt own fr lo D T) (d : decode cc pc = .ok (.lload_n j, 1)) {x : Int64} {lv : List (Nat × Value)} (hl : lv_has ls nL lv) (i : Nat) (hi : lv[i]? = some ((j : Nat), .long x)) (hp : pc + 1 = p2) (k : kx_W E H locs p2 ls (.long x :: rest)) : kx_W E H locs pc ls (rest) := by
  subst hp
  exact lv_lload_n C.1 C.2.1 d rfl (lv_at hl i hi) k
theorem x_lload (p2 : Nat) {j : Nat} (C : kx_C E cc nL rt own fr lo D T) (d : decode cc pc = .ok (.lload j, 2)) {x : Int64} {lv : List (Nat × Value)} (hl : lv_has ls nL lv) (i : Nat) (hi : lv[i]? = some (j, .long x)) (hp : pc + 2 = p2) (k : kx_W E H locs p2 ls (.long x :: rest)) : kx_W E H locs pc ls (rest) := by
  subst hp
  exact lv_lload C.1 C.2.1 d (lv_at hl i hi) k
theorem x_aload_n (p2 : Nat) {j : Fin 4} (C : kx_C E cc nL rt own fr lo D T) (d : decode cc pc = .ok (.aload_n j, 1)) {x : Nat} {lv : List (Nat × Value)} (hl : lv_has ls nL lv) (i : Nat) (hi : lv[i]? = some ((j : Nat), .ref x)) (hp : pc + 1 = p2) (k : kx_W E H locs p2 ls (.ref x :: rest)) : kx_W E H locs pc ls (rest) := by
  subst hp
  exact lv_aload_n C.1 C.2.1 d rfl (lv_at hl i hi) k
theorem x_aload (p2 : Nat) {j : Nat} (C : kx_C E cc nL rt own fr lo D T) (d : decode cc pc = .ok (.aload j, 2)) {x : Nat} {lv : List (Nat × Value)} (hl : lv_has ls nL lv) (i : Nat) (hi : lv[i]? = some (j, .ref x)) (hp : pc + 2 = p2) (k : kx_W E H locs p2 ls (.ref x :: rest)) : kx_W E H locs pc ls (rest) := by
  subst hp
  exact lv_aload C.1 C.2.1 d (lv_at hl i hi) k
theorem x_fload_n (p2 : Nat) {j : Fin 4} (C : kx_C E cc nL rt own fr lo D T) (d : decode cc pc = .ok (.fload_n j, 1)) {x : UInt32} {lv : List (Nat × Value)} (hl : lv_has ls nL lv) (i : Nat) (hi : lv[i]? = some ((j : Nat), .float x)) (hp : pc + 1 = p2) (k : kx_W E H locs p2 ls (.float x :: rest)) : kx_W E H locs pc ls (rest) := by
  subst hp
  exact lv_fload_n C.1 C.2.1 d rfl (lv_at hl i hi) k
theorem x_fload (p2 : Nat) {j : Nat} (C : kx_C E cc nL rt own fr lo D T) (d : decode cc pc = .ok (.fload j, 2)) {x : UInt32} {lv : List (Nat × Value)} (hl : lv_has ls nL lv) (i : Nat) (hi : lv[i]? = some (j, .float x)) (hp : pc + 2 = p2) (k : kx_W E H locs p2 ls (.float x :: rest)) : kx_W E H locs pc ls (rest) := by
  subst hp
  exact lv_fload C.1 C.2.1 d (lv_at hl i hi) k
theorem x_istore_n (p2 : Nat) {j : Fin 4} (C : kx_C E cc nL rt own fr lo D T) (d : decode cc pc = .ok (.istore_n j, 1)) {x : Int32} {lv : List (Nat × Value)} (lv' : List (Nat × Value)) (hl : lv_has ls nL lv) (hn : Nat.ble ((j : Nat) + 1) nL = true) (he : ((j : Nat), Value.int x) :: lv.filter (fun q => !(q.1 == (j : Nat)) && !(q.1 + 1 == (j : Nat) && q.2.category == 2)) = lv') (hp : pc + 1 = p2) (k : ∀ ls : Array Slot, lv_has ls nL lv' → kx_W E H locs p2 ls rest) : kx_W E H locs pc ls (Value.int x :: rest) := by
  subst hp
  exact lv_istore_n C.1 C.2.1 d rfl hl (Nat.le_of_ble_eq_true hn) he (fun ls h => k ls h)
theorem x_istore (p2 : Nat) {j : Nat} (C : kx_C E cc nL rt own fr lo D T) (d : decode cc pc = .ok (.istore j, 2)) {x : Int32} {lv : List (Nat × Value)} (lv' : List (Nat × Value)) (hl : lv_has ls nL lv) (hn : Nat.ble (j + 1) nL = true) (he : (j, Value.int x) :: lv.filter (fun q => !(q.1 == j) && !(q.1 + 1 == j && q.2.category == 2)) = lv') (hp : pc + 2 = p2) (k : ∀ ls : Array Slot, lv_has ls nL lv' → kx_W E H locs p2 ls rest) : kx_W E H locs pc ls (Value.int x :: rest) := by
  subst hp
  exact lv_istore C.1 C.2.1 d hl (Nat.le_of_ble_eq_true hn) he (fun ls h => k ls h)
theorem x_lstore_n (p2 : Nat) {j : Fin 4} (C : kx_C E cc nL rt own fr lo D T) (d : decode cc pc = .ok (.lstore_n j, 1)) {x : Int64} {lv : List (Nat × Value)} (lv' : List (Nat × Value)) (hl : lv_has ls nL lv) (hn : Nat.ble ((j : Nat) + 2) nL = true) (he : ((j : Nat), Value.long x) :: lv.filter (fun q => !(q.1 == (j : Nat)) && (!(q.1 == (j : Nat) + 1) && !(q.1 + 1 == (j : Nat) && q.2.category == 2))) = lv') (hp : pc + 1 = p2) (k : ∀ ls : Array Slot, lv_has ls nL lv' → kx_W E H locs p2 ls rest) : kx_W E H locs pc ls (Value.long x :: rest) := by
  subst hp
  exact lv_lstore_n C.1 C.2.1 d rfl hl (Nat.le_of_ble_eq_true hn) he (fun ls h => k ls h)
theorem x_lstore (p2 : Nat) {j : Nat} (C : kx_C E cc nL rt own fr lo D T) (d : decode cc pc = .ok (.lstore j, 2)) {x : Int64} {lv : List (Nat × Value)} (lv' : List (Nat × Value)) (hl : lv_has ls nL lv) (hn : Nat.ble (j + 2) nL = true) (he : (j, Value.long x) :: lv.filter (fun q => !(q.1 == j) && (!(q.1 == j + 1) && !(q.1 + 1 == j && q.2.category == 2))) = lv') (hp : pc + 2 = p2) (k : ∀ ls : Array Slot, lv_has ls nL lv' → kx_W E H locs p2 ls rest) : kx_W E H locs pc ls (Value.long x :: rest) := by
  subst hp
  exact lv_lstore C.1 C.2.1 d hl (Nat.le_of_ble_eq_true hn) he (fun ls h => k ls h)
theorem x_astore_n (p2 : Nat) {j : Fin 4} (C : kx_C E cc nL rt own fr lo D T) (d : decode cc pc = .ok (.astore_n j, 1)) {x : Nat} {lv : List (Nat × Value)} (lv' : List (Nat × Value)) (hl : lv_has ls nL lv) (hn : Nat.ble ((j : Nat) + 1) nL = true) (he : ((j : Nat), Value.ref x) :: lv.filter (fun q => !(q.1 == (j : Nat)) && !(q.1 + 1 == (j : Nat) && q.2.category == 2)) = lv') (hp : pc + 1 = p2) (k : ∀ ls : Array Slot, lv_has ls nL lv' → kx_W E H locs p2 ls rest) : kx_W E H locs pc ls (Value.ref x :: rest) := by
  subst hp
  exact lv_astore_n C.1 C.2.1 d rfl hl (Nat.le_of_ble_eq_true hn) he (fun ls h => k ls h)
theorem x_astore (p2 : Nat) {j : Nat} (C : kx_C E cc nL rt own fr lo D T) (d : decode cc pc = .ok (.astore j, 2)) {x : Nat} {lv : List (Nat × Value)} (lv' : List (Nat × Value)) (hl : lv_has ls nL lv) (hn : Nat.ble (j + 1) nL = true) (he : (j, Value.ref x) :: lv.filter (fun q => !(q.1 == j) && !(q.1 + 1 == j && q.2.category == 2)) = lv') (hp : pc + 2 = p2) (k : ∀ ls : Array Slot, lv_has ls nL lv' → kx_W E H locs p2 ls rest) : kx_W E H locs pc ls (Value.ref x :: rest) := by
  subst hp
  exact lv_astore C.1 C.2.1 d hl (Nat.le_of_ble_eq_true hn) he (fun ls h => k ls h)
theorem x_fstore_n (p2 : Nat) {j : Fin 4} (C : kx_C E cc nL rt own fr lo D T) (d : decode cc pc = .ok (.fstore_n j, 1)) {x : UInt32} {lv : List (Nat × Value)} (lv' : List (Nat × Value)) (hl : lv_has ls nL lv) (hn : Nat.ble ((j : Nat) + 1) nL = true) (he : ((j : Nat), Value.float x) :: lv.filter (fun q => !(q.1 == (j : Nat)) && !(q.1 + 1 == (j : Nat) && q.2.category == 2)) = lv') (hp : pc + 1 = p2) (k : ∀ ls : Array Slot, lv_has ls nL lv' → kx_W E H locs p2 ls rest) : kx_W E H locs pc ls (Value.float x :: rest) := by
  subst hp
  exact lv_fstore_n C.1 C.2.1 d rfl hl (Nat.le_of_ble_eq_true hn) he (fun ls h => k ls h)
theorem x_fstore (p2 : Nat) {j : Nat} (C : kx_C E cc nL rt own fr lo D T) (d : decode cc pc = .ok (.fstore j, 2)) {x : UInt32} {lv : List (Nat × Value)} (lv' : List (Nat × Value)) (hl : lv_has ls nL lv) (hn : Nat.ble (j + 1) nL = true) (he : (j, Value.float x) :: lv.filter (fun q => !(q.1 == j) && !(q.1 + 1 == j && q.2.category == 2)) = lv') (hp : pc + 2 = p2) (k : ∀ ls : Array Slot, lv_has ls nL lv' → kx_W E H locs p2 ls rest) : kx_W E H locs pc ls (Value.float x :: rest) := by
  subst hp
  exact lv_fstore C.1 C.2.1 d hl (Nat.le_of_ble_eq_true hn) he (fun ls h => k ls h)
theorem x_iinc (p2 : Nat) {i : Nat} {n : Int} (C : kx_C E cc nL rt own fr lo D T) (d : decode cc pc = .ok (.iinc i n, 3)) {x : Int32} {lv : List (Nat × Value)} (v : Int32) (hv : Int32.ofInt n = v) (lv' : List (Nat × Value)) (hl : lv_has ls nL lv) (j : Nat) (hj : lv[j]? = some (i, .int x)) (hn : Nat.ble (i + 1) nL = true) (he : (i, Value.int (x + v)) :: lv.filter (fun q => !(q.1 == i) && !(q.1 + 1 == i && q.2.category == 2)) = lv') (hp : pc + 3 = p2) (k : ∀ ls : Array Slot, lv_has ls nL lv' → kx_W E H locs p2 ls rest) : kx_W E H locs pc ls rest := by
  subst hp
  exact lv_iinc C.1 C.2.1 d hl hj (by rw [hv]) (Nat.le_of_ble_eq_true hn) he (fun ls h => k ls h)
theorem x_iadd (p2 : Nat) (C : kx_C E cc nL rt own fr lo D T) (d : decode cc pc = .ok (.iadd, 1)) {x y : Int32} (hp : pc + 1 = p2) (k : kx_W E H locs p2 ls (.int (x + y) :: rest)) : kx_W E H locs pc ls (.int y :: .int x :: rest) := by
  subst hp
  exact lv_iadd C.1 C.2.1 d k
theorem x_isub (p2 : Nat) (C : kx_C E cc nL rt own fr lo D T) (d : decode cc pc = .ok (.isub, 1)) {x y : Int32} (hp : pc + 1 = p2) (k : kx_W E H locs p2 ls (.int (x - y) :: rest)) : kx_W E H locs pc ls (.int y :: .int x :: rest) := by
  subst hp
  exact lv_isub C.1 C.2.1 d k
theorem x_imul (p2 : Nat) (C : kx_C E cc nL rt own fr lo D T) (d : decode cc pc = .ok (.imul, 1)) {x y : Int32} (hp : pc + 1 = p2) (k : kx_W E H locs p2 ls (.int (x * y) :: rest)) : kx_W E H locs pc ls (.int y :: .int x :: rest) := by
  subst hp
  exact lv_imul C.1 C.2.1 d k
theorem x_iand (p2 : Nat) (C : kx_C E cc nL rt own fr lo D T) (d : decode cc pc = .ok (.iand, 1)) {x y : Int32} (hp : pc + 1 = p2) (k : kx_W E H locs p2 ls (.int (x &&& y) :: rest)) : kx_W E H locs pc ls (.int y :: .int x :: rest) := by
  subst hp
  exact lv_iand C.1 C.2.1 d k
theorem x_ior (p2 : Nat) (C : kx_C E cc nL rt own fr lo D T) (d : decode cc pc = .ok (.ior, 1)) {x y : Int32} (hp : pc + 1 = p2) (k : kx_W E H locs p2 ls (.int (x ||| y) :: rest)) : kx_W E H locs pc ls (.int y :: .int x :: rest) := by
  subst hp
  exact lv_ior C.1 C.2.1 d k
theorem x_ixor (p2 : Nat) (C : kx_C E cc nL rt own fr lo D T) (d : decode cc pc = .ok (.ixor, 1)) {x y : Int32} (hp : pc + 1 = p2) (k : kx_W E H locs p2 ls (.int (x ^^^ y) :: rest)) : kx_W E H locs pc ls (.int y :: .int x :: rest) := by
  subst hp
  exact lv_ixor C.1 C.2.1 d k
theorem x_ineg (p2 : Nat) (C : kx_C E cc nL rt own fr lo D T) (d : decode cc pc = .ok (.ineg, 1)) {x : Int32} (hp : pc + 1 = p2) (k : kx_W E H locs p2 ls (.int (-x) :: rest)) : kx_W E H locs pc ls (.int x :: rest) := by
  subst hp
  exact lv_ineg C.1 C.2.1 d k
theorem x_idiv (p2 : Nat) (C : kx_C E cc nL rt own fr lo D T) (d : decode cc pc = .ok (.idiv, 1)) {x y : Int32} {α : Type} {u : Option α} {z : α} (hf : (if y = 0 then none else u) = some z) (hp : pc + 1 = p2) (k : u = some z → kx_W E H locs p2 ls (.int (x / y) :: rest)) : kx_W E H locs pc ls (.int y :: .int x :: rest) := by
  subst hp
  by_cases h : y = 0
  · rw [if_pos h] at hf; cases hf
  · rw [if_neg h] at hf; exact lv_idiv C.1 C.2.1 d h (k hf)
theorem x_idiv0 (p2 : Nat) (C : kx_C E cc nL rt own fr lo D T) (d : decode cc pc = .ok (.idiv, 1)) {x y : Int32} (h : ¬ y = 0) (hp : pc + 1 = p2) (k : kx_W E H locs p2 ls (.int (x / y) :: rest)) : kx_W E H locs pc ls (.int y :: .int x :: rest) := by
  subst hp
  exact lv_idiv C.1 C.2.1 d h k
theorem x_irem (p2 : Nat) (C : kx_C E cc nL rt own fr lo D T) (d : decode cc pc = .ok (.irem, 1)) {x y : Int32} {α : Type} {u : Option α} {z : α} (hf : (if y = 0 then none else u) = some z) (hp : pc + 1 = p2) (k : u = some z → kx_W E H locs p2 ls (.int (x - x / y * y) :: rest)) : kx_W E H locs pc ls (.int y :: .int x :: rest) := by
  subst hp
  by_cases h : y = 0
  · rw [if_pos h] at hf; cases hf
  · rw [if_neg h] at hf; exact lv_irem C.1 C.2.1 d h (k hf)
theorem x_irem0 (p2 : Nat) (C : kx_C E cc nL rt own fr lo D T) (d : decode cc pc = .ok (.irem, 1)) {x y : Int32} (h : ¬ y = 0) (hp : pc + 1 = p2) (k : kx_W E H locs p2 ls (.int (x - x / y * y) :: rest)) : kx_W E H locs pc ls (.int y :: .int x :: rest) := by
  subst hp
  exact lv_irem C.1 C.2.1 d h k
theorem x_ladd (p2 : Nat) (C : kx_C E cc nL rt own fr lo D T) (d : decode cc pc = .ok (.ladd, 1)) {x y : Int64} (hp : pc + 1 = p2) (k : kx_W E H locs p2 ls (.long (x + y) :: rest)) : kx_W E H locs pc ls (.long y :: .long x :: rest) := by
  subst hp
  exact lv_ladd C.1 C.2.1 d k
theorem x_lsub (p2 : Nat) (C : kx_C E cc nL rt own fr lo D T) (d : decode cc pc = .ok (.lsub, 1)) {x y : Int64} (hp : pc + 1 = p2) (k : kx_W E H locs p2 ls (.long (x - y) :: rest)) : kx_W E H locs pc ls (.long y :: .long x :: rest) := by
  subst hp
  exact lv_lsub C.1 C.2.1 d k
theorem x_lmul (p2 : Nat) (C : kx_C E cc nL rt own fr lo D T) (d : decode cc pc = .ok (.lmul, 1)) {x y : Int64} (hp : pc + 1 = p2) (k : kx_W E H locs p2 ls (.long (x * y) :: rest)) : kx_W E H locs pc ls (.long y :: .long x :: rest) := by
  subst hp
  exact lv_lmul C.1 C.2.1 d k
theorem x_land (p2 : Nat) (C : kx_C E cc nL rt own fr lo D T) (d : decode cc pc = .ok (.land, 1)) {x y : Int64} (hp : pc + 1 = p2) (k : kx_W E H locs p2 ls (.long (x &&& y) :: rest)) : kx_W E H locs pc ls (.long y :: .long x :: rest) := by
  subst hp
  exact lv_land C.1 C.2.1 d k
theorem x_lor (p2 : Nat) (C : kx_C E cc nL rt own fr lo D T) (d : decode cc pc = .ok (.lor, 1)) {x y : Int64} (hp : pc + 1 = p2) (k : kx_W E H locs p2 ls (.long (x ||| y) :: rest)) : kx_W E H locs pc ls (.long y :: .long x :: rest) := by
  subst hp
  exact lv_lor C.1 C.2.1 d k
theorem x_lxor (p2 : Nat) (C : kx_C E cc nL rt own fr lo D T) (d : decode cc pc = .ok (.lxor, 1)) {x y : Int64} (hp : pc + 1 = p2) (k : kx_W E H locs p2 ls (.long (x ^^^ y) :: rest)) : kx_W E H locs pc ls (.long y :: .long x :: rest) := by
  subst hp
  exact lv_lxor C.1 C.2.1 d k
theorem x_lneg (p2 : Nat) (C : kx_C E cc nL rt own fr lo D T) (d : decode cc pc = .ok (.lneg, 1)) {x : Int64} (hp : pc + 1 = p2) (k : kx_W E H locs p2 ls (.long (-x) :: rest)) : kx_W E H locs pc ls (.long x :: rest) := by
  subst hp
  exact lv_lneg C.1 C.2.1 d k
theorem x_ldiv (p2 : Nat) (C : kx_C E cc nL rt own fr lo D T) (d : decode cc pc = .ok (.ldiv, 1)) {x y : Int64} {α : Type} {u : Option α} {z : α} (hf : (if y = 0 then none else u) = some z) (hp : pc + 1 = p2) (k : u = some z → kx_W E H locs p2 ls (.long (x / y) :: rest)) : kx_W E H locs pc ls (.long y :: .long x :: rest) := by
  subst hp
  by_cases h : y = 0
  · rw [if_pos h] at hf; cases hf
  · rw [if_neg h] at hf; exact lv_ldiv C.1 C.2.1 d h (k hf)
theorem x_ldiv0 (p2 : Nat) (C : kx_C E cc nL rt own fr lo D T) (d : decode cc pc = .ok (.ldiv, 1)) {x y : Int64} (h : ¬ y = 0) (hp : pc + 1 = p2) (k : kx_W E H locs p2 ls (.long (x / y) :: rest)) : kx_W E H locs pc ls (.long y :: .long x :: rest) := by
  subst hp
  exact lv_ldiv C.1 C.2.1 d h k
theorem x_lrem (p2 : Nat) (C : kx_C E cc nL rt own fr lo D T) (d : decode cc pc = .ok (.lrem, 1)) {x y : Int64} {α : Type} {u : Option α} {z : α} (hf : (if y = 0 then none else u) = some z) (hp : pc + 1 = p2) (k : u = some z → kx_W E H locs p2 ls (.long (x - x / y * y) :: rest)) : kx_W E H locs pc ls (.long y :: .long x :: rest) := by
  subst hp
  by_cases h : y = 0
  · rw [if_pos h] at hf; cases hf
  · rw [if_neg h] at hf; exact lv_lrem C.1 C.2.1 d h (k hf)
theorem x_lrem0 (p2 : Nat) (C : kx_C E cc nL rt own fr lo D T) (d : decode cc pc = .ok (.lrem, 1)) {x y : Int64} (h : ¬ y = 0) (hp : pc + 1 = p2) (k : kx_W E H locs p2 ls (.long (x - x / y * y) :: rest)) : kx_W E H locs pc ls (.long y :: .long x :: rest) := by
  subst hp
  exact lv_lrem C.1 C.2.1 d h k
theorem x_ishl (p2 : Nat) (C : kx_C E cc nL rt own fr lo D T) (d : decode cc pc = .ok (.ishl, 1)) {x y : Int32} (hp : pc + 1 = p2) (k : kx_W E H locs p2 ls (.int (x <<< (y &&& 31)) :: rest)) : kx_W E H locs pc ls (.int y :: .int x :: rest) := by
  subst hp
  exact lv_ishl C.1 C.2.1 d k
theorem x_ishr (p2 : Nat) (C : kx_C E cc nL rt own fr lo D T) (d : decode cc pc = .ok (.ishr, 1)) {x y : Int32} (hp : pc + 1 = p2) (k : kx_W E H locs p2 ls (.int (x >>> (y &&& 31)) :: rest)) : kx_W E H locs pc ls (.int y :: .int x :: rest) := by
  subst hp
  exact lv_ishr C.1 C.2.1 d k
theorem x_lshl (p2 : Nat) (C : kx_C E cc nL rt own fr lo D T) (d : decode cc pc = .ok (.lshl, 1)) {x : Int64} {y : Int32} (hp : pc + 1 = p2) (k : kx_W E H locs p2 ls (.long (x <<< (y.toInt64 &&& 63)) :: rest)) : kx_W E H locs pc ls (.int y :: .long x :: rest) := by
  subst hp
  exact lv_lshl C.1 C.2.1 d rfl k
theorem x_lshr (p2 : Nat) (C : kx_C E cc nL rt own fr lo D T) (d : decode cc pc = .ok (.lshr, 1)) {x : Int64} {y : Int32} (hp : pc + 1 = p2) (k : kx_W E H locs p2 ls (.long (x >>> (y.toInt64 &&& 63)) :: rest)) : kx_W E H locs pc ls (.int y :: .long x :: rest) := by
  subst hp
  exact lv_lshr C.1 C.2.1 d rfl k
theorem x_i2l (p2 : Nat) (C : kx_C E cc nL rt own fr lo D T) (d : decode cc pc = .ok (.i2l, 1)) {x : Int32} (hp : pc + 1 = p2) (k : kx_W E H locs p2 ls (.long x.toInt64 :: rest)) : kx_W E H locs pc ls (.int x :: rest) := by
  subst hp
  exact lv_i2l C.1 C.2.1 d rfl k
theorem x_l2i (p2 : Nat) (C : kx_C E cc nL rt own fr lo D T) (d : decode cc pc = .ok (.l2i, 1)) {x : Int64} (hp : pc + 1 = p2) (k : kx_W E H locs p2 ls (.int x.toInt32 :: rest)) : kx_W E H locs pc ls (.long x :: rest) := by
  subst hp
  exact lv_l2i C.1 C.2.1 d rfl k
theorem x_i2b (p2 : Nat) (C : kx_C E cc nL rt own fr lo D T) (d : decode cc pc = .ok (.i2b, 1)) {x : Int32} (hp : pc + 1 = p2) (k : kx_W E H locs p2 ls (.int x.toInt8.toInt32 :: rest)) : kx_W E H locs pc ls (.int x :: rest) := by
  subst hp
  exact lv_i2b C.1 C.2.1 d rfl k
theorem x_dup (p2 : Nat) (C : kx_C E cc nL rt own fr lo D T) (d : decode cc pc = .ok (.dup, 1)) {v : Value} (hv : v.category = 1) (hp : pc + 1 = p2) (k : kx_W E H locs p2 ls (v :: v :: rest)) : kx_W E H locs pc ls (v :: rest) := by
  subst hp
  exact lv_dup C.1 C.2.1 d hv k
theorem x_pop (p2 : Nat) (C : kx_C E cc nL rt own fr lo D T) (d : decode cc pc = .ok (.pop, 1)) {v : Value} (hv : v.category = 1) (hp : pc + 1 = p2) (k : kx_W E H locs p2 ls (rest)) : kx_W E H locs pc ls (v :: rest) := by
  subst hp
  exact lv_pop C.1 C.2.1 d hv k
theorem x_dup_x1 (p2 : Nat) (C : kx_C E cc nL rt own fr lo D T) (d : decode cc pc = .ok (.dup_x1, 1)) {v u : Value} (hv : v.category = 1) (hu : u.category = 1) (hp : pc + 1 = p2) (k : kx_W E H locs p2 ls (v :: u :: v :: rest)) : kx_W E H locs pc ls (v :: u :: rest) := by
  subst hp
  exact lv_dup_x1 C.1 C.2.1 d hv hu k
theorem x_dup2 (p2 : Nat) (C : kx_C E cc nL rt own fr lo D T) (d : decode cc pc = .ok (.dup2, 1)) {v u : Value} (hv : v.category = 1) (hu : u.category = 1) (hp : pc + 1 = p2) (k : kx_W E H locs p2 ls (v :: u :: v :: u :: rest)) : kx_W E H locs pc ls (v :: u :: rest) := by
  subst hp
  exact lv_dup2_11 C.1 C.2.1 d hv hu k
theorem x_fadd (p2 : Nat) (C : kx_C E cc nL rt own fr lo D T) (d : decode cc pc = .ok (.fadd, 1)) {x y : UInt32} {α : Type} {u : Option α} {z : α} (hf : (if FP.fadd x y &&& 0x7fffffff ≤ 0x7f800000 then u else none) = some z) (hp : pc + 1 = p2) (k : u = some z → kx_W E H locs p2 ls (.float (FP.fadd x y) :: rest)) : kx_W E H locs pc ls (.float y :: .float x :: rest) := by
  subst hp
  by_cases h : FP.fadd x y &&& 0x7fffffff ≤ 0x7f800000
  · rw [if_pos h] at hf; exact lv_fadd C.1 C.2.1 d h (k hf)
  · rw [if_neg h] at hf; cases hf
theorem x_fsub (p2 : Nat) (C : kx_C E cc nL rt own fr lo D T) (d : decode cc pc = .ok (.fsub, 1)) {x y : UInt32} {α : Type} {u : Option α} {z : α} (hf : (if FP.fsub x y &&& 0x7fffffff ≤ 0x7f800000 then u else none) = some z) (hp : pc + 1 = p2) (k : u = some z → kx_W E H locs p2 ls (.float (FP.fsub x y) :: rest)) : kx_W E H locs pc ls (.float y :: .float x :: rest) := by
  subst hp
  by_cases h : FP.fsub x y &&& 0x7fffffff ≤ 0x7f800000
  · rw [if_pos h] at hf; exact lv_fsub C.1 C.2.1 d h (k hf)
  · rw [if_neg h] at hf; cases hf
theorem x_fmul (p2 : Nat) (C : kx_C E cc nL rt own fr lo D T) (d : decode cc pc = .ok (.fmul, 1)) {x y : UInt32} {α : Type} {u : Option α} {z : α} (hf : (if FP.fmul x y &&& 0x7fffffff ≤ 0x7f800000 then u else none) = some z) (hp : pc + 1 = p2) (k : u = some z → kx_W E H locs p2 ls (.float (FP.fmul x y) :: rest)) : kx_W E H locs pc ls (.float y :: .float x :: rest) := by
  subst hp
  by_cases h : FP.fmul x y &&& 0x7fffffff ≤ 0x7f800000
  · rw [if_pos h] at hf; exact lv_fmul C.1 C.2.1 d h (k hf)
  · rw [if_neg h] at hf; cases hf
theorem x_fdiv (p2 : Nat) (C : kx_C E cc nL rt own fr lo D T) (d : decode cc pc = .ok (.fdiv, 1)) {x y : UInt32} {α : Type} {u : Option α} {z : α} (hf : (if FP.fdiv x y &&& 0x7fffffff ≤ 0x7f800000 then u else none) = some z) (hp : pc + 1 = p2) (k : u = some z → kx_W E H locs p2 ls (.float (FP.fdiv x y) :: rest)) : kx_W E H locs pc ls (.float y :: .float x :: rest) := by
  subst hp
  by_cases h : FP.fdiv x y &&& 0x7fffffff ≤ 0x7f800000
  · rw [if_pos h] at hf; exact lv_fdiv C.1 C.2.1 d h (k hf)
  · rw [if_neg h] at hf; cases hf
theorem x_if_eq (tgt p2 : Nat) {off : Int} (C : kx_C E cc nL rt own fr lo D T) (d : decode cc pc = .ok (.ifCond .eq off, 3)) {x : Int32} {α : Type} {u v r : Option α} (ht : (pc : Int) + off = (tgt : Int)) (hp : pc + 3 = p2) (hf : (if x = 0 then u else v) = r) (kt : u = r → kx_W E H locs tgt ls rest) (kf : v = r → kx_W E H locs p2 ls rest) : kx_W E H locs pc ls (.int x :: rest) := by
  subst hp
  exact lv_if_eq C.1 C.2.1 d ht (fun h => kt ((if_pos h).symm.trans hf)) (fun h => kf ((if_neg h).symm.trans hf))
theorem x_icmp_eq (tgt p2 : Nat) {off : Int} (C : kx_C E cc nL rt own fr lo D T) (d : decode cc pc = .ok (.if_icmp .eq off, 3)) {x y : Int32} {α : Type} {u v r : Option α} (ht : (pc : Int) + off = (tgt : Int)) (hp : pc + 3 = p2) (hf : (if x = y then u else v) = r) (kt : u = r → kx_W E H locs tgt ls rest) (kf : v = r → kx_W E H locs p2 ls rest) : kx_W E H locs pc ls (.int y :: .int x :: rest) := by
  subst hp
  exact lv_icmp_eq C.1 C.2.1 d ht (fun h => kt ((if_pos h).symm.trans hf)) (fun h => kf ((if_neg h).symm.trans hf))
theorem x_if_ne (tgt p2 : Nat) {off : Int} (C : kx_C E cc nL rt own fr lo D T) (d : decode cc pc = .ok (.ifCond .ne off, 3)) {x : Int32} {α : Type} {u v r : Option α} (ht : (pc : Int) + off = (tgt : Int)) (hp : pc + 3 = p2) (hf : (if x = 0 then u else v) = r) (kt : v = r → kx_W E H locs tgt ls rest) (kf : u = r → kx_W E H locs p2 ls rest) : kx_W E H locs pc ls (.int x :: rest) := by
  subst hp
  exact lv_if_ne C.1 C.2.1 d ht (fun h => kt ((if_neg h).symm.trans hf)) (fun h => kf ((if_pos h).symm.trans hf))
theorem x_icmp_ne (tgt p2 : Nat) {off : Int} (C : kx_C E cc nL rt own fr lo D T) (d : decode cc pc = .ok (.if_icmp .ne off, 3)) {x y : Int32} {α : Type} {u v r : Option α} (ht : (pc : Int) + off = (tgt : Int)) (hp : pc + 3 = p2) (hf : (if x = y then u else v) = r) (kt : v = r → kx_W E H locs tgt ls rest) (kf : u = r → kx_W E H locs p2 ls rest) : kx_W E H locs pc ls (.int y :: .int x :: rest) := by
  subst hp
  exact lv_icmp_ne C.1 C.2.1 d ht (fun h => kt ((if_neg h).symm.trans hf)) (fun h => kf ((if_pos h).symm.trans hf))
theorem x_if_lt (tgt p2 : Nat) {off : Int} (C : kx_C E cc nL rt own fr lo D T) (d : decode cc pc = .ok (.ifCond .lt off, 3)) {x : Int32} {α : Type} {u v r : Option α} (ht : (pc : Int) + off = (tgt : Int)) (hp : pc + 3 = p2) (hf : (if x < 0 then u else v) = r) (kt : u = r → kx_W E H locs tgt ls rest) (kf : v = r → kx_W E H locs p2 ls rest) : kx_W E H locs pc ls (.int x :: rest) := by
  subst hp
  exact lv_if_lt C.1 C.2.1 d ht (fun h => kt ((if_pos h).symm.trans hf)) (fun h => kf ((if_neg h).symm.trans hf))
theorem x_icmp_lt (tgt p2 : Nat) {off : Int} (C : kx_C E cc nL rt own fr lo D T) (d : decode cc pc = .ok (.if_icmp .lt off, 3)) {x y : Int32} {α : Type} {u v r : Option α} (ht : (pc : Int) + off = (tgt : Int)) (hp : pc + 3 = p2) (hf : (if x < y then u else v) = r) (kt : u = r → kx_W E H locs tgt ls rest) (kf : v = r → kx_W E H locs p2 ls rest) : kx_W E H locs pc ls (.int y :: .int x :: rest) := by
  subst hp
  exact lv_icmp_lt C.1 C.2.1 d ht (fun h => kt ((if_pos h).symm.trans hf)) (fun h => kf ((if_neg h).symm.trans hf))
theorem x_if_ge (tgt p2 : Nat) {off : Int} (C : kx_C E cc nL rt own fr lo D T) (d : decode cc pc = .ok (.ifCond .ge off, 3)) {x : Int32} {α : Type} {u v r : Option α} (ht : (pc : Int) + off = (tgt : Int)) (hp : pc + 3 = p2) (hf : (if 0 ≤ x then u else v) = r) (kt : u = r → kx_W E H locs tgt ls rest) (kf : v = r → kx_W E H locs p2 ls rest) : kx_W E H locs pc ls (.int x :: rest) := by
  subst hp
  exact lv_if_ge C.1 C.2.1 d ht (fun h => kt ((if_pos h).symm.trans hf)) (fun h => kf ((if_neg h).symm.trans hf))
theorem x_icmp_ge (tgt p2 : Nat) {off : Int} (C : kx_C E cc nL rt own fr lo D T) (d : decode cc pc = .ok (.if_icmp .ge off, 3)) {x y : Int32} {α : Type} {u v r : Option α} (ht : (pc : Int) + off = (tgt : Int)) (hp : pc + 3 = p2) (hf : (if y ≤ x then u else v) = r) (kt : u = r → kx_W E H locs tgt ls rest) (kf : v = r → kx_W E H locs p2 ls rest) : kx_W E H locs pc ls (.int y :: .int x :: rest) := by
  subst hp
  exact lv_icmp_ge C.1 C.2.1 d ht (fun h => kt ((if_pos h).symm.trans hf)) (fun h => kf ((if_neg h).symm.trans hf))
theorem x_if_gt (tgt p2 : Nat) {off : Int} (C : kx_C E cc nL rt own fr lo D T) (d : decode cc pc = .ok (.ifCond .gt off, 3)) {x : Int32} {α : Type} {u v r : Option α} (ht : (pc : Int) + off = (tgt : Int)) (hp : pc + 3 = p2) (hf : (if 0 < x then u else v) = r) (kt : u = r → kx_W E H locs tgt ls rest) (kf : v = r → kx_W E H locs p2 ls rest) : kx_W E H locs pc ls (.int x :: rest) := by
  subst hp
  exact lv_if_gt C.1 C.2.1 d ht (fun h => kt ((if_pos h).symm.trans hf)) (fun h => kf ((if_neg h).symm.trans hf))
theorem x_icmp_gt (tgt p2 : Nat) {off : Int} (C : kx_C E cc nL rt own fr lo D T) (d : decode cc pc = .ok (.if_icmp .gt off, 3)) {x y : Int32} {α : Type} {u v r : Option α} (ht : (pc : Int) + off = (tgt : Int)) (hp : pc + 3 = p2) (hf : (if y < x then u else v) = r) (kt : u = r → kx_W E H locs tgt ls rest) (kf : v = r → kx_W E H locs p2 ls rest) : kx_W E H locs pc ls (.int y :: .int x :: rest) := by
  subst hp
  exact lv_icmp_gt C.1 C.2.1 d ht (fun h => kt ((if_pos h).symm.trans hf)) (fun h => kf ((if_neg h).symm.trans hf))
theorem x_if_le (tgt p2 : Nat) {off : Int} (C : kx_C E cc nL rt own fr lo D T) (d : decode cc pc = .ok (.ifCond .le off, 3)) {x : Int32} {α : Type} {u v r : Option α} (ht : (pc : Int) + off = (tgt : Int)) (hp : pc + 3 = p2) (hf : (if x ≤ 0 then u else v) = r) (kt : u = r → kx_W E H locs tgt ls rest) (kf : v = r → kx_W E H locs p2 ls rest) : kx_W E H locs pc ls (.int x :: rest) := by
  subst hp
  exact lv_if_le C.1 C.2.1 d ht (fun h => kt ((if_pos h).symm.trans hf)) (fun h => kf ((if_neg h).symm.trans hf))
theorem x_icmp_le (tgt p2 : Nat) {off : Int} (C : kx_C E cc nL rt own fr lo D T) (d : decode cc pc = .ok (.if_icmp .le off, 3)) {x y : Int32} {α : Type} {u v r : Option α} (ht : (pc : Int) + off = (tgt : Int)) (hp : pc + 3 = p2) (hf : (if x ≤ y then u else v) = r) (kt : u = r → kx_W E H locs tgt ls rest) (kf : v = r → kx_W E H locs p2 ls rest) : kx_W E H locs pc ls (.int y :: .int x :: rest) := by
  subst hp
  exact lv_icmp_le C.1 C.2.1 d ht (fun h => kt ((if_pos h).symm.trans hf)) (fun h => kf ((if_neg h).symm.trans hf))
theorem x_goto (tgt : Nat) {off : Int} (C : kx_C E cc nL rt own fr lo D T) (d : decode cc pc = .ok (.goto off, 3)) (ht : (pc : Int) + off = (tgt : Int)) (k : kx_W E H locs tgt ls rest) : kx_W E H locs pc ls rest := lv_goto C.1 C.2.1 d ht k
theorem x_lcmp_eq (tgt p2 p3 : Nat) {off : Int} (C : kx_C E cc nL rt own fr lo D T) (d : decode cc pc = .ok (.lcmp, 1)) (d2 : decode cc p2 = .ok (.ifCond .eq off, 3)) {x y : Int64} {α : Type} {u v r : Option α} (hp : pc + 1 = p2) (ht : (p2 : Int) + off = (tgt : Int)) (hp3 : p2 + 3 = p3) (hf : (if x = y then u else v) = r) (kt : u = r → kx_W E H locs tgt ls rest) (kf : v = r → kx_W E H locs p3 ls rest) : kx_W E H locs pc ls (.long y :: .long x :: rest) := by
  subst hp
  subst hp3
  exact W.lcmp C.1 C.2.1 d (lv_if_eq C.1 C.2.1 d2 ht (fun h => kt ((if_pos ((lg_cmp_eq x y).mp h)).symm.trans hf)) (fun h => kf ((if_neg (fun z => h ((lg_cmp_eq x y).mpr z))).symm.trans hf)))
theorem x_lcmp_ne (tgt p2 p3 : Nat) {off : Int} (C : kx_C E cc nL rt own fr lo D T) (d : decode cc pc = .ok (.lcmp, 1)) (d2 : decode cc p2 = .ok (.ifCond .ne off, 3)) {x y : Int64} {α : Type} {u v r : Option α} (hp : pc + 1 = p2) (ht : (p2 : Int) + off = (tgt : Int)) (hp3 : p2 + 3 = p3) (hf : (if x = y then u else v) = r) (kt : v = r → kx_W E H locs tgt ls rest) (kf : u = r → kx_W E H locs p3 ls rest) : kx_W E H locs pc ls (.long y :: .long x :: rest) := by
  subst hp
  subst hp3
  exact W.lcmp C.1 C.2.1 d (lv_if_ne C.1 C.2.1 d2 ht (fun h => kt ((if_neg (fun z => h ((lg_cmp_eq x y).mpr z))).symm.trans hf)) (fun h => kf ((if_pos ((lg_cmp_eq x y).mp h)).symm.trans hf)))
theorem x_lcmp_lt (tgt p2 p3 : Nat) {off : Int} (C : kx_C E cc nL rt own fr lo D T) (d : decode cc pc = .ok (.lcmp, 1)) (d2 : decode cc p2 = .ok (.ifCond .lt off, 3)) {x y : Int64} {α : Type} {u v r : Option α} (hp : pc + 1 = p2) (ht : (p2 : Int) + off = (tgt : Int)) (hp3 : p2 + 3 = p3) (hf : (if x < y then u else v) = r) (kt : u = r → kx_W E H locs tgt ls rest) (kf : v = r → kx_W E H locs p3 ls rest) : kx_W E H locs pc ls (.long y :: .long x :: rest) := by
  subst hp
  subst hp3
  exact W.lcmp C.1 C.2.1 d (lv_if_lt C.1 C.2.1 d2 ht (fun h => kt ((if_pos ((lg_cmp_lt x y).mp h)).symm.trans hf)) (fun h => kf ((if_neg (fun z => h ((lg_cmp_lt x y).mpr z))).symm.trans hf)))
theorem x_lcmp_ge (tgt p2 p3 : Nat) {off : Int} (C : kx_C E cc nL rt own fr lo D T) (d : decode cc pc = .ok (.lcmp, 1)) (d2 : decode cc p2 = .ok (.ifCond .ge off, 3)) {x y : Int64} {α : Type} {u v r : Option α} (hp : pc + 1 = p2) (ht : (p2 : Int) + off = (tgt : Int)) (hp3 : p2 + 3 = p3) (hf : (if y ≤ x then u else v) = r) (kt : u = r → kx_W E H locs tgt ls rest) (kf : v = r → kx_W E H locs p3 ls rest) : kx_W E H locs pc ls (.long y :: .long x :: rest) := by
  subst hp
  subst hp3
  exact W.lcmp C.1 C.2.1 d (lv_if_ge C.1 C.2.1 d2 ht (fun h => kt ((if_pos ((lg_cmp_ge x y).mp h)).symm.trans hf)) (fun h => kf ((if_neg (fun z => h ((lg_cmp_ge x y).mpr z))).symm.trans hf)))
theorem x_lcmp_gt (tgt p2 p3 : Nat) {off : Int} (C : kx_C E cc nL rt own fr lo D T) (d : decode cc pc = .ok (.lcmp, 1)) (d2 : decode cc p2 = .ok (.ifCond .gt off, 3)) {x y : Int64} {α : Type} {u v r : Option α} (hp : pc + 1 = p2) (ht : (p2 : Int) + off = (tgt : Int)) (hp3 : p2 + 3 = p3) (hf : (if y < x then u else v) = r) (kt : u = r → kx_W E H locs tgt ls rest) (kf : v = r → kx_W E H locs p3 ls rest) : kx_W E H locs pc ls (.long y :: .long x :: rest) := by
  subst hp
  subst hp3
  exact W.lcmp C.1 C.2.1 d (lv_if_gt C.1 C.2.1 d2 ht (fun h => kt ((if_pos ((lg_cmp_gt x y).mp h)).symm.trans hf)) (fun h => kf ((if_neg (fun z => h ((lg_cmp_gt x y).mpr z))).symm.trans hf)))
theorem x_lcmp_le (tgt p2 p3 : Nat) {off : Int} (C : kx_C E cc nL rt own fr lo D T) (d : decode cc pc = .ok (.lcmp, 1)) (d2 : decode cc p2 = .ok (.ifCond .le off, 3)) {x y : Int64} {α : Type} {u v r : Option α} (hp : pc + 1 = p2) (ht : (p2 : Int) + off = (tgt : Int)) (hp3 : p2 + 3 = p3) (hf : (if x ≤ y then u else v) = r) (kt : u = r → kx_W E H locs tgt ls rest) (kf : v = r → kx_W E H locs p3 ls rest) : kx_W E H locs pc ls (.long y :: .long x :: rest) := by
  subst hp
  subst hp3
  exact W.lcmp C.1 C.2.1 d (lv_if_le C.1 C.2.1 d2 ht (fun h => kt ((if_pos ((lg_cmp_le x y).mp h)).symm.trans hf)) (fun h => kf ((if_neg (fun z => h ((lg_cmp_le x y).mpr z))).symm.trans hf)))
theorem x_fcmp (p2 : Nat) {op : CmpOp} (C : kx_C E cc nL rt own fr lo D T) (d : decode cc pc = .ok (.fcmp op, 1)) {x y : UInt32} (hp : pc + 1 = p2) (k : kx_W E H locs p2 ls (.int (Op.cmpValue (FP.fcmp x y) op) :: rest)) : kx_W E H locs pc ls (.float y :: .float x :: rest) := by
  subst hp
  exact lv_fcmp C.1 C.2.1 d k
theorem x_i2f (p2 : Nat) (C : kx_C E cc nL rt own fr lo D T) (d : decode cc pc = .ok (.i2f, 1)) {x : Int32} (hp : pc + 1 = p2) (k : kx_W E H locs p2 ls (.float (FP.i2f x) :: rest)) : kx_W E H locs pc ls (.int x :: rest) := by
  subst hp
  exact lv_i2f C.1 C.2.1 d k
theorem x_l2f (p2 : Nat) (C : kx_C E cc nL rt own fr lo D T) (d : decode cc pc = .ok (.l2f, 1)) {x : Int64} (hp : pc + 1 = p2) (k : kx_W E H locs p2 ls (.float (FP.l2f x) :: rest)) : kx_W E H locs pc ls (.long x :: rest) := by
  subst hp
  exact lv_l2f C.1 C.2.1 d k
theorem x_f2i (p2 : Nat) (C : kx_C E cc nL rt own fr lo D T) (d : decode cc pc = .ok (.f2i, 1)) {x : UInt32} (hp : pc + 1 = p2) (k : kx_W E H locs p2 ls (.int (FP.f2i x) :: rest)) : kx_W E H locs pc ls (.float x :: rest) := by
  subst hp
  exact lv_f2i C.1 C.2.1 d k
theorem x_ldcf (p2 : Nat) {index : Nat} (C : kx_C E cc nL rt own fr lo D T) (d : decode cc pc = .ok (.ldc index, 2)) (v : UInt32) (hm : Cond.constantFloat own index v ∈ lw_g) (hp : pc + 2 = p2) (k : kx_W E H locs p2 ls (.float v :: rest)) : kx_W E H locs pc ls rest := by
  subst hp
  exact lv_ldcf C.1 C.2.1 C.2.2.2.2.1 (C.2.2.2.2.2.1 _ hm) d k
theorem kx_ldcwF {p : Program} {l : Launch} {e : Env} {R : Room} {s : State} {m : MethodId} {args : Array Value} {below : List Frame} {meth : Method} {c : Code} {locs : List Loc} {cells slots : Nat} {T : State} (X : Stand p l e R s m args below meth c T locs cells slots) (hexec : p.tables.exec = Jvm.exec) {own : String} {index : Nat} {v : UInt32} (hown : s.vm.findClass own = some m.cls)
    (hconst : (Cond.constantFloat own index v).before args s = true) {g : JFrame} (hg : g.method = m) (hdg : decode c.code g.pc = .ok (.ldc_w index, 3)) :
    ∀ target, Steps p.tables e below (T.setTop { g with pc := g.pc + 3, stack := .float v :: g.stack }) target → Steps p.tables e below (T.setTop g) target := by
  obtain ⟨k, cf, hk, hcf, hcp⟩ := Cond.constantFloat_spec hown hconst
  obtain ⟨k', hk', he⟩ := X.warmed.alike.2.2 _ _ hk
  intro target hrest
  subst hg
  jvm_step X.here [hexec, hdg, ldc_w.wp_float (s := T) (f := g) X.here.top hk' (by rw [he]; exact hcf) hcp]
  exact hrest
theorem x_ldcf_w (p2 : Nat) {index : Nat} (C : kx_C E cc nL rt own fr lo D T) (d : decode cc pc = .ok (.ldc_w index, 3)) (v : UInt32) (hm : Cond.constantFloat own index v ∈ lw_g) (hp : pc + 3 = p2) (k : kx_W E H locs p2 ls (.float v :: rest)) : kx_W E H locs pc ls rest := by
  subst hp
  intro T' hT X
  obtain ⟨t, a, b⟩ := k T' hT X
  exact ⟨t, kx_ldcwF X C.1 C.2.2.2.2.1 (C.2.2.2.2.2.1 _ hm) (g := F0 _ pc ls rest) rfl (by rw [C.2.1]; exact d) t a, b⟩
theorem x_ldc (p2 : Nat) {index : Nat} (C : kx_C E cc nL rt own fr lo D T) (d : decode cc pc = .ok (.ldc index, 2)) (v : Int32) (hm : Cond.constant own index v ∈ lw_g) (hp : pc + 2 = p2) (k : kx_W E H locs p2 ls (.int v :: rest)) : kx_W E H locs pc ls rest := by
  subst hp
  exact lv_ldc C.1 C.2.1 C.2.2.2.2.1 (C.2.2.2.2.2.1 _ hm) d k
theorem x_ldc_w (p2 : Nat) {index : Nat} (C : kx_C E cc nL rt own fr lo D T) (d : decode cc pc = .ok (.ldc_w index, 3)) (v : Int32) (hm : Cond.constant own index v ∈ lw_g) (hp : pc + 3 = p2) (k : kx_W E H locs p2 ls (.int v :: rest)) : kx_W E H locs pc ls rest := by
  subst hp
  exact lv_ldcw C.1 C.2.1 C.2.2.2.2.1 (C.2.2.2.2.2.1 _ hm) d k
theorem x_ldc2_w (p2 : Nat) {index : Nat} (C : kx_C E cc nL rt own fr lo D T) (d : decode cc pc = .ok (.ldc2_w index, 3)) (v : Int64) (hm : Cond.constantLong own index v ∈ lw_g) (hp : pc + 3 = p2) (k : kx_W E H locs p2 ls (.long v :: rest)) : kx_W E H locs pc ls rest := by
  subst hp
  exact lv_ldc2 C.1 C.2.1 C.2.2.2.2.1 (C.2.2.2.2.2.1 _ hm) d k
theorem x_get (p2 : Nat) {index ci j : Nat} (C : kx_C E cc nL rt own fr lo D T) (d : decode cc pc = .ok (.getfield index, 3)) (X : kx_H E D A H locs w) (F : kx_F own index ci j) (q0 : Nat) {a : Nat} {fs : List Value} (he : w[q0]? = some (a, .inr (ci, fs))) {v : Value} (hv : fs[j]? = some v) (hp : pc + 3 = p2) (k : kx_W E H locs p2 ls (v :: rest)) : kx_W E H locs pc ls (.ref a :: rest) := by
  subst hp
  obtain ⟨Cn, Tb, N, f1, f2, f3, f4⟩ := F
  exact va_get C.1 C.2.1 C.2.2.2.2.2.1 f1 C.2.2.2.2.1 C.2.2.2.2.2.2.1 X.1 q0 he f2 j f3 (C.2.2.2.2.2.1 _ f4) (fun _ h => h) hv d k
theorem x_put (p2 : Nat) {index ci j : Nat} {ty : FieldType} (C : kx_C E cc nL rt own fr lo D T) (d : decode cc pc = .ok (.putfield index, 3)) (X : kx_H E D A H locs w) (F : kx_FP own index ci j ty) (q0 : Nat) {a : Nat} {fs : List Value} (he : w[q0]? = some (a, .inr (ci, fs))) {v : Value} (hn : narrow ty v = v) (hfit : fits ty v = true) (hl : Nat.ble (j + 1) fs.length = true) (w' : va_W) (hw : w.set q0 (a, .inr (ci, fs.set j v)) = w') (hp : pc + 3 = p2) (k : ∀ (H : Heap) (locs : List Loc), kx_H E D A H locs w' → kx_W E H locs p2 ls rest) : kx_W E H locs pc ls (v :: .ref a :: rest) := by
  subst hp
  obtain ⟨Cn, Tb, N, tyf, f1, f2, f3, f4, f5, f6, f7, f8⟩ := F
  refine va_put C.1 C.2.1 C.2.2.2.2.2.1 f1 tyf f5 f6 C.2.2.2.2.1 C.2.2.2.2.2.2.1 X.1 X.2.1 X.2.2.1 q0 he f2 j f3 (C.2.2.2.2.2.1 _ f4) (fun _ h => h) f7 f8 hn hfit (Nat.le_of_ble_eq_true hl) d (fun H1 locs1 hP hD hS => ?_)
  rw [hw] at hP hD
  exact k H1 locs1 ⟨hP, hD, hS, X.2.2.2⟩
theorem x_iald (p2 : Nat) (C : kx_C E cc nL rt own fr lo D T) (d : decode cc pc = .ok (.iaload, 1)) (X : kx_H E D A H locs w) (q0 : Nat) {a n : Nat} {f : Nat → Int32} (he : w[q0]? = some (a, .inl (T.1, n, .inl f))) {i : Int32} {α : Type} {u : Option α} {z : α} (hf : (if i < 0 ∨ n ≤ i.toNatClampNeg then none else u) = some z) (hp : pc + 1 = p2) (k : u = some z → kx_W E H locs p2 ls (.int (f i.toNatClampNeg) :: rest)) : kx_W E H locs pc ls (.int i :: .ref a :: rest) := by
  subst hp
  by_cases h : i < 0 ∨ n ≤ i.toNatClampNeg
  · rw [if_pos h] at hf; cases hf
  · rw [if_neg h] at hf; exact va_iald C.1 C.2.1 C.2.2.2.2.2.2.1 X.1 q0 0 he rfl h d (k hf)
theorem x_bald (p2 : Nat) (C : kx_C E cc nL rt own fr lo D T) (d : decode cc pc = .ok (.baload, 1)) (X : kx_H E D A H locs w) (q0 : Nat) {a n : Nat} {f : Nat → Int32} (he : w[q0]? = some (a, .inl (T.2.2.1, n, .inl f))) {i : Int32} {α : Type} {u : Option α} {z : α} (hf : (if i < 0 ∨ n ≤ i.toNatClampNeg then none else u) = some z) (hp : pc + 1 = p2) (k : u = some z → kx_W E H locs p2 ls (.int (f i.toNatClampNeg) :: rest)) : kx_W E H locs pc ls (.int i :: .ref a :: rest) := by
  subst hp
  by_cases h : i < 0 ∨ n ≤ i.toNatClampNeg
  · rw [if_pos h] at hf; cases hf
  · rw [if_neg h] at hf; exact va_bald C.1 C.2.1 C.2.2.2.2.2.2.1 X.1 q0 2 he rfl h d (k hf)
theorem x_zald (p2 : Nat) (C : kx_C E cc nL rt own fr lo D T) (d : decode cc pc = .ok (.baload, 1)) (X : kx_H E D A H locs w) (q0 : Nat) {a n : Nat} {f : Nat → Int32} (he : w[q0]? = some (a, .inl (T.2.2.2, n, .inl f))) {i : Int32} {α : Type} {u : Option α} {z : α} (hf : (if i < 0 ∨ n ≤ i.toNatClampNeg then none else u) = some z) (hp : pc + 1 = p2) (k : u = some z → kx_W E H locs p2 ls (.int (f i.toNatClampNeg) :: rest)) : kx_W E H locs pc ls (.int i :: .ref a :: rest) := by
  subst hp
  by_cases h : i < 0 ∨ n ≤ i.toNatClampNeg
  · rw [if_pos h] at hf; cases hf
  · rw [if_neg h] at hf; exact va_zald C.1 C.2.1 C.2.2.2.2.2.2.1 X.1 q0 3 he rfl h d (k hf)
theorem x_lald (p2 : Nat) (C : kx_C E cc nL rt own fr lo D T) (d : decode cc pc = .ok (.laload, 1)) (X : kx_H E D A H locs w) (q0 : Nat) {a n : Nat} {f : Nat → Int64} (he : w[q0]? = some (a, .inl (T.2.1, n, .inr (.inl f)))) {i : Int32} {α : Type} {u : Option α} {z : α} (hf : (if i < 0 ∨ n ≤ i.toNatClampNeg then none else u) = some z) (hp : pc + 1 = p2) (k : u = some z → kx_W E H locs p2 ls (.long (f i.toNatClampNeg) :: rest)) : kx_W E H locs pc ls (.int i :: .ref a :: rest) := by
  subst hp
  by_cases h : i < 0 ∨ n ≤ i.toNatClampNeg
  · rw [if_pos h] at hf; cases hf
  · rw [if_neg h] at hf; exact va_lald C.1 C.2.1 C.2.2.2.2.2.2.1 X.1 q0 1 he rfl h d (k hf)
theorem x_iast (p2 : Nat) (C : kx_C E cc nL rt own fr lo D T) (d : decode cc pc = .ok (.iastore, 1)) (X : kx_H E D A H locs w) (q0 : Nat) {a n : Nat} {f : Nat → Int32} (he : w[q0]? = some (a, .inl (T.1, n, .inl f))) {i : Int32} {x : Int32} {α : Type} {u : Option α} {z : α} (w' : va_W) (hw : w.set q0 (a, .inl (T.1, n, .inl (upd f i.toNatClampNeg x))) = w') (hf : (if i < 0 ∨ n ≤ i.toNatClampNeg then none else u) = some z) (hp : pc + 1 = p2) (k : ∀ (H : Heap) (locs : List Loc), kx_H E D A H locs w' → u = some z → kx_W E H locs p2 ls rest) : kx_W E H locs pc ls (.int x :: .int i :: .ref a :: rest) := by
  subst hp
  by_cases h : i < 0 ∨ n ≤ i.toNatClampNeg
  · rw [if_pos h] at hf; cases hf
  · rw [if_neg h] at hf
    refine va_iast C.1 C.2.1 C.2.2.2.2.2.2.1 X.1 X.2.1 X.2.2.1 q0 0 he rfl h d (fun H1 locs1 hP hD hS => ?_)
    rw [hw] at hP hD
    exact k H1 locs1 ⟨hP, hD, hS, X.2.2.2⟩ hf
theorem x_bast (p2 : Nat) (C : kx_C E cc nL rt own fr lo D T) (d : decode cc pc = .ok (.bastore, 1)) (X : kx_H E D A H locs w) (q0 : Nat) {a n : Nat} {f : Nat → Int32} (he : w[q0]? = some (a, .inl (T.2.2.1, n, .inl f))) {i : Int32} {x : Int32} {α : Type} {u : Option α} {z : α} (w' : va_W) (hw : w.set q0 (a, .inl (T.2.2.1, n, .inl (upd f i.toNatClampNeg x.toInt8.toInt32))) = w') (hf : (if i < 0 ∨ n ≤ i.toNatClampNeg then none else u) = some z) (hp : pc + 1 = p2) (k : ∀ (H : Heap) (locs : List Loc), kx_H E D A H locs w' → u = some z → kx_W E H locs p2 ls rest) : kx_W E H locs pc ls (.int x :: .int i :: .ref a :: rest) := by
  subst hp
  by_cases h : i < 0 ∨ n ≤ i.toNatClampNeg
  · rw [if_pos h] at hf; cases hf
  · rw [if_neg h] at hf
    refine va_bast C.1 C.2.1 C.2.2.2.2.2.2.1 X.1 X.2.1 X.2.2.1 q0 2 he rfl h d (fun H1 locs1 hP hD hS => ?_)
    rw [show vp_nar .byte x = x.toInt8.toInt32 from rfl, hw] at hP hD
    exact k H1 locs1 ⟨hP, hD, hS, X.2.2.2⟩ hf
theorem x_zast (p2 : Nat) (C : kx_C E cc nL rt own fr lo D T) (d : decode cc pc = .ok (.bastore, 1)) (X : kx_H E D A H locs w) (q0 : Nat) {a n : Nat} {f : Nat → Int32} (he : w[q0]? = some (a, .inl (T.2.2.2, n, .inl f))) {i : Int32} {x : Int32} {α : Type} {u : Option α} {z : α} (w' : va_W) (hw : w.set q0 (a, .inl (T.2.2.2, n, .inl (upd f i.toNatClampNeg (x &&& 1)))) = w') (hf : (if i < 0 ∨ n ≤ i.toNatClampNeg then none else u) = some z) (hp : pc + 1 = p2) (k : ∀ (H : Heap) (locs : List Loc), kx_H E D A H locs w' → u = some z → kx_W E H locs p2 ls rest) : kx_W E H locs pc ls (.int x :: .int i :: .ref a :: rest) := by
  subst hp
  by_cases h : i < 0 ∨ n ≤ i.toNatClampNeg
  · rw [if_pos h] at hf; cases hf
  · rw [if_neg h] at hf
    refine va_zast C.1 C.2.1 C.2.2.2.2.2.2.1 X.1 X.2.1 X.2.2.1 q0 3 he rfl h d (fun H1 locs1 hP hD hS => ?_)
    rw [show vp_nar .boolean x = x &&& 1 from rfl, hw] at hP hD
    exact k H1 locs1 ⟨hP, hD, hS, X.2.2.2⟩ hf
theorem x_last (p2 : Nat) (C : kx_C E cc nL rt own fr lo D T) (d : decode cc pc = .ok (.lastore, 1)) (X : kx_H E D A H locs w) (q0 : Nat) {a n : Nat} {f : Nat → Int64} (he : w[q0]? = some (a, .inl (T.2.1, n, .inr (.inl f)))) {i : Int32} {x : Int64} {α : Type} {u : Option α} {z : α} (w' : va_W) (hw : w.set q0 (a, .inl (T.2.1, n, .inr (.inl (vp_updL f i.toNatClampNeg x)))) = w') (hf : (if i < 0 ∨ n ≤ i.toNatClampNeg then none else u) = some z) (hp : pc + 1 = p2) (k : ∀ (H : Heap) (locs : List Loc), kx_H E D A H locs w' → u = some z → kx_W E H locs p2 ls rest) : kx_W E H locs pc ls (.long x :: .int i :: .ref a :: rest) := by
  subst hp
  by_cases h : i < 0 ∨ n ≤ i.toNatClampNeg
  · rw [if_pos h] at hf; cases hf
  · rw [if_neg h] at hf
    refine va_last C.1 C.2.1 C.2.2.2.2.2.2.1 X.1 X.2.1 X.2.2.1 q0 1 he rfl h d (fun H1 locs1 hP hD hS => ?_)
    rw [hw] at hP hD
    exact k H1 locs1 ⟨hP, hD, hS, X.2.2.2⟩ hf
theorem x_alen (p2 : Nat) (C : kx_C E cc nL rt own fr lo D T) (d : decode cc pc = .ok (.arraylength, 1)) (X : kx_H E D A H locs w) (q0 t0 : Nat) {a : Nat} {cA : ClassId} {x : vp_A} (he : w[q0]? = some (a, .inl (cA, x))) {ty : FieldType} (ht : (kx_tys T)[t0]? = some (cA, ty)) (v : Int32) (hv : Int32.ofNat x.1 = v) (hp : pc + 1 = p2) (k : kx_W E H locs p2 ls (.int v :: rest)) : kx_W E H locs pc ls (.ref a :: rest) := by
  subst hp
  exact va_alen C.1 C.2.1 C.2.2.2.2.2.2.1 X.1 q0 t0 he ht hv d k
theorem x_table (tgt : Nat) {dflt lo1 hi off : Int} {offs : Array Int} {len : Nat} (C : kx_C E cc nL rt own fr lo D T) (d : decode cc pc = .ok (.tableswitch dflt lo1 hi offs, len)) {x : Int32} (v : Int32) (h : x = v) (h1 : ¬ v.toInt < lo1) (h2 : ¬ hi < v.toInt) (ho : offs[(v.toInt - lo1).toNat]? = some off) (ht : (pc : Int) + off = (tgt : Int)) (k : kx_W E H locs tgt ls rest) : kx_W E H locs pc ls (.int x :: rest) := by
  subst h
  exact lv_tableIn C.1 C.2.1 d h1 h2 ho ht k
theorem x_tableOut (tgt : Nat) {dflt lo1 hi : Int} {offs : Array Int} {len : Nat} (C : kx_C E cc nL rt own fr lo D T) (d : decode cc pc = .ok (.tableswitch dflt lo1 hi offs, len)) {x : Int32} (h : x.toInt < lo1 ∨ hi < x.toInt) (ht : (pc : Int) + dflt = (tgt : Int)) (k : kx_W E H locs tgt ls rest) : kx_W E H locs pc ls (.int x :: rest) := lv_tableOut C.1 C.2.1 d h ht k
theorem x_lookup (tgt : Nat) {dflt off : Int} {ps : Array (Int × Int)} {len : Nat} (C : kx_C E cc nL rt own fr lo D T) (d : decode cc pc = .ok (.lookupswitch dflt ps, len)) {x : Int32} (hs : (ps.toList.zip (ps.toList.drop 1)).all (fun (a, next) => a.1 < next.1) = true) (ho : Op.lookupswitch.offset ps.toList dflt x.toInt = off) (ht : (pc : Int) + off = (tgt : Int)) (k : kx_W E H locs tgt ls rest) : kx_W E H locs pc ls (.int x :: rest) := lv_lookup C.1 C.2.1 d hs ho ht k
theorem kx_sw {c : Prop} [Decidable c] {α : Type} {u v r : Option α} {G : Prop} (hf : (if c then u else v) = r) (kt : c → u = r → G) (kf : ¬ c → v = r → G) : G := by
  by_cases h : c
  · exact kt h ((if_pos h).symm.trans hf)
  · exact kf h ((if_neg h).symm.trans hf)
theorem kx_bind {α β : Type} {o : Option α} {g : α → Option β} {x : β} (h : o.bind g = some x) : ∃ y, o = some y ∧ g y = some x := Option.bind_eq_some_iff.mp h
end KXR
/-- returning is the end -/
def kx_RI (E : KE) (cc : ByteArray) (D : va_G) (A : Nat → Prop) (w : va_W) (v : Int32) : Prop := ∀ (H : Heap) (locs : List Loc) (pc : Nat) (ls : Array Slot), kx_H E D A H locs w → decode cc pc = .ok (.ireturn, 1) → kx_W E H locs pc ls [.int v]
def kx_RZ (E : KE) (cc : ByteArray) (D : va_G) (A : Nat → Prop) (w : va_W) (v : Int32) : Prop := ∀ (H : Heap) (locs : List Loc) (pc : Nat) (ls : Array Slot), kx_H E D A H locs w → v &&& 1 = v → decode cc pc = .ok (.ireturn, 1) → kx_W E H locs pc ls [.int v]
def kx_RL (E : KE) (cc : ByteArray) (D : va_G) (A : Nat → Prop) (w : va_W) (v : Int64) : Prop := ∀ (H : Heap) (locs : List Loc) (pc : Nat) (ls : Array Slot), kx_H E D A H locs w → decode cc pc = .ok (.lreturn, 1) → kx_W E H locs pc ls [.long v]
def kx_RV (E : KE) (cc : ByteArray) (D : va_G) (A : Nat → Prop) (w : va_W) : Prop := ∀ (H : Heap) (locs : List Loc) (pc : Nat) (ls : Array Slot), kx_H E D A H locs w → decode cc pc = .ok (.return_, 1) → kx_W E H locs pc ls []
/-- the world at a method's start, and at its end -/
def kx_B (D : va_G) (T : KT) (w : va_W) (sz : Nat) : State → Prop := fun U => U.heap.size = sz ∧ va_P D vwCl w U.heap ∧ va_K D vwCl (kx_tys T) U ∧ va_D (fun _ => True) w
def kx_Z (D : va_G) (T : KT) (w w' : va_W) (sz : Nat) : Unit → State → Prop := fun _ t => va_P D vwCl w' t.heap ∧ va_K D vwCl (kx_tys T) t ∧ va_D (va_A w sz) w'
def kx_ws (y : MethodName) (cc : ByteArray) (n : Nat) (r : Option FieldType) : List Cond := .code y cc n r :: lw_g
abbrev kx_rm (fr lo : Nat) : Room := { frames := fr, cells := 0, slots := 0, locals := lo }
/-- contracts: of a method that answers an int (boolean too), a long, nothing -/
def kx_MI (l : Launch) (y : MethodName) (cc : ByteArray) (n : Nat) (r : Option FieldType) (fr lo : Nat) (D : va_G) (T : KT) (av : List Value) (w w' : va_W) (v : Int32) : Prop :=
  ∀ sz : Nat, Met l y (kx_ws y cc n r) (kx_rm fr lo) (va_Pc av (kx_B D T w sz)) (va_Qi (fun (r : Int32) (_ : Unit) => r = v) (kx_Z D T w w' sz) (va_A w sz)) 0 0 (va_A w sz)
def kx_ML (l : Launch) (y : MethodName) (cc : ByteArray) (n : Nat) (r : Option FieldType) (fr lo : Nat) (D : va_G) (T : KT) (av : List Value) (w w' : va_W) (v : Int64) : Prop :=
  ∀ sz : Nat, Met l y (kx_ws y cc n r) (kx_rm fr lo) (va_Pc av (kx_B D T w sz)) (va_Ql (fun (r : Int64) (_ : Unit) => r = v) (kx_Z D T w w' sz) (va_A w sz)) 0 0 (va_A w sz)
def kx_MV (l : Launch) (y : MethodName) (cc : ByteArray) (n : Nat) (r : Option FieldType) (fr lo : Nat) (D : va_G) (T : KT) (av : List Value) (w w' : va_W) : Prop :=
  ∀ sz : Nat, Met l y (kx_ws y cc n r) (kx_rm fr lo) (va_Pc av (kx_B D T w sz)) (va_Qv (fun (_ : Unit) => True) (kx_Z D T w w' sz) (va_A w sz)) 0 0 (va_A w sz)
theorem kx_blind {av : List Value} {D : va_G} {T : KT} {w : va_W} {sz : Nat} : FrameBlind (va_Pc av (kx_B D T w sz)) := fun a U g mk q => by
  obtain ⟨q0, q1, qP, qK, qD⟩ := q
  exact ⟨q0, q1, qP, va_K.moved (u := U) (U := U.calling g mk a) (Vm.Alike.refl U.vm) qK, qD⟩
theorem kx_ofWF {l : Launch} {y : MethodName} {ws ws' : List Cond} {rm : Room} {Pc : Array Value → State → Prop} {Qc : Array Value → State → Outcome → State → Prop} {mc ms : Nat} {free : Addr → Prop} {cc : ByteArray} {maxL : Nat} {ret : Option FieldType}
    (hy : plainFor y = true) (hw : ws = Cond.code y cc maxL ret :: ws')
    (body : ∀ p e s m args below meth c s₁, BodyLoose p l y (headSpec ws rm) cc maxL ret e s m args below meth c s₁ → c.maxLocals = maxL → Pc args s →
      W p l e (headSpec ws rm).room s m args below meth c s.heap [] 0 0 (MQ below Qc args s mc ms free) (entryFrame m args maxL)) : Met l y ws rm Pc Qc mc ms free := by
  refine MetFree.of_bodySF (code := cc) (maxLocals := maxL) (ret := ret) hy ?_ ?_
  · intro args s m h hn
    obtain ⟨meth, c, h1, h2, h3, h4, h5, h6, -, -⟩ := Cond.code_spec hn (atoms_spec (ws := ws) h _ (by rw [hw]; exact List.mem_cons_self))
    exact ⟨meth, c, h1, h2, h3, h4, h5, h6⟩
  · intro p e s m args below meth c s₁ B hml hP _
    have hh0 : s₁.heap = s.heap := by rw [B.state]; rfl
    obtain ⟨t, a1, o, b1, b2, b3⟩ := body p e s m args below meth c s₁ B hml hP s₁ hh0 (Stand.of_body B)
    exact ⟨t, o, a1, b1, b2, ⟨b3.1, b3.2⟩⟩
theorem kx_ofMI {l : Launch} {y : MethodName} {cc : ByteArray} {n fr lo : Nat} {D : va_G} {T : KT} {av : List Value} {w w' : va_W} {v : Int32} (own : String) (hown0 : y.cls = own) (hy : plainFor y = true) (hn : Nat.ble (lg_sl av).length n = true)
    (body : ∀ (E : KE) (A : Nat → Prop) (H : Heap) (ls : Array Slot), E.2.1 = l → kx_C E cc n (some .int) own fr lo D T → kx_H E D A H [] w → kx_RI E cc D A w' v → lv_has ls n (lv_args 0 av) → kx_W E H [] 0 ls []) :
    kx_MI l y cc n (some .int) fr lo D T av w w' v := by
  subst hown0
  intro sz
  refine kx_ofWF (cc := cc) (maxL := n) (ret := (some .int)) hy rfl ?_
  intro p e s m args below meth c s₁ B hml hv
  obtain ⟨rfl, hsz, hP, hK, hD0⟩ := hv
  have hts := atoms_spec (ws := kx_ws y cc n (some .int)) B.pre
  have hown : s.vm.findClass y.cls = some m.cls := findClass_of_methodNamed B.named
  subst hsz
  have hl := lv_entry av (n := n) (Nat.le_of_ble_eq_true hn)
  rw [lg_entry_eq]
  refine body (p, l, e, _, s, m, _, below, meth, c, _, 0, 0) (va_A w s.heap.size) s.heap _ rfl ⟨B.exec, B.bytes, B.returns, hml, hown, fun w hw => hts w (List.mem_cons_of_mem _ hw), hK, B.notSynchronized, rfl, rfl, Nat.zero_le _, Nat.zero_le _⟩ ⟨hP, hD0.self, va_S.rf, fun q h => Or.inr h⟩ ?_ hl
  intro H locs pc ls X d
  exact W.iret (v := v) B.exec B.bytes B.returns (fun t ht hW => ⟨⟨v, (), rfl, rfl, by rw [ht]; exact X.1, va_K.moved hW.alike hK, X.2.1⟩, X.2.2.1.F ht⟩) X.2.2.1.2.2 d B.notSynchronized
theorem kx_ofMZ {l : Launch} {y : MethodName} {cc : ByteArray} {n fr lo : Nat} {D : va_G} {T : KT} {av : List Value} {w w' : va_W} {v : Int32} (own : String) (hown0 : y.cls = own) (hy : plainFor y = true) (hn : Nat.ble (lg_sl av).length n = true)
    (body : ∀ (E : KE) (A : Nat → Prop) (H : Heap) (ls : Array Slot), E.2.1 = l → kx_C E cc n (some .boolean) own fr lo D T → kx_H E D A H [] w → kx_RZ E cc D A w' v → lv_has ls n (lv_args 0 av) → kx_W E H [] 0 ls []) :
    kx_MI l y cc n (some .boolean) fr lo D T av w w' v := by
  subst hown0
  intro sz
  refine kx_ofWF (cc := cc) (maxL := n) (ret := (some .boolean)) hy rfl ?_
  intro p e s m args below meth c s₁ B hml hv
  obtain ⟨rfl, hsz, hP, hK, hD0⟩ := hv
  have hts := atoms_spec (ws := kx_ws y cc n (some .boolean)) B.pre
  have hown : s.vm.findClass y.cls = some m.cls := findClass_of_methodNamed B.named
  subst hsz
  have hl := lv_entry av (n := n) (Nat.le_of_ble_eq_true hn)
  rw [lg_entry_eq]
  refine body (p, l, e, _, s, m, _, below, meth, c, _, 0, 0) (va_A w s.heap.size) s.heap _ rfl ⟨B.exec, B.bytes, B.returns, hml, hown, fun w hw => hts w (List.mem_cons_of_mem _ hw), hK, B.notSynchronized, rfl, rfl, Nat.zero_le _, Nat.zero_le _⟩ ⟨hP, hD0.self, va_S.rf, fun q h => Or.inr h⟩ ?_ hl
  intro H locs pc ls X hv1 d
  exact W.zret (v := v) B.exec B.bytes B.returns (by show Value.int (v &&& 1) = _; rw [hv1]) (fun t ht hW => ⟨⟨v, (), rfl, rfl, by rw [ht]; exact X.1, va_K.moved hW.alike hK, X.2.1⟩, X.2.2.1.F ht⟩) X.2.2.1.2.2 d B.notSynchronized
theorem kx_ofML {l : Launch} {y : MethodName} {cc : ByteArray} {n fr lo : Nat} {D : va_G} {T : KT} {av : List Value} {w w' : va_W} {v : Int64} (own : String) (hown0 : y.cls = own) (hy : plainFor y = true) (hn : Nat.ble (lg_sl av).length n = true)
    (body : ∀ (E : KE) (A : Nat → Prop) (H : Heap) (ls : Array Slot), E.2.1 = l → kx_C E cc n (some .long) own fr lo D T → kx_H E D A H [] w → kx_RL E cc D A w' v → lv_has ls n (lv_args 0 av) → kx_W E H [] 0 ls []) :
    kx_ML l y cc n (some .long) fr lo D T av w w' v := by
  subst hown0
  intro sz
  refine kx_ofWF (cc := cc) (maxL := n) (ret := (some .long)) hy rfl ?_
  intro p e s m args below meth c s₁ B hml hv
  obtain ⟨rfl, hsz, hP, hK, hD0⟩ := hv
  have hts := atoms_spec (ws := kx_ws y cc n (some .long)) B.pre
  have hown : s.vm.findClass y.cls = some m.cls := findClass_of_methodNamed B.named
  subst hsz
  have hl := lv_entry av (n := n) (Nat.le_of_ble_eq_true hn)
  rw [lg_entry_eq]
  refine body (p, l, e, _, s, m, _, below, meth, c, _, 0, 0) (va_A w s.heap.size) s.heap _ rfl ⟨B.exec, B.bytes, B.returns, hml, hown, fun w hw => hts w (List.mem_cons_of_mem _ hw), hK, B.notSynchronized, rfl, rfl, Nat.zero_le _, Nat.zero_le _⟩ ⟨hP, hD0.self, va_S.rf, fun q h => Or.inr h⟩ ?_ hl
  intro H locs pc ls X d
  exact W.lret (v := v) B.exec B.bytes B.returns (fun t ht hW => ⟨⟨v, (), rfl, rfl, by rw [ht]; exact X.1, va_K.moved hW.alike hK, X.2.1⟩, X.2.2.1.F ht⟩) X.2.2.1.2.2 d B.notSynchronized
theorem kx_ofMV {l : Launch} {y : MethodName} {cc : ByteArray} {n fr lo : Nat} {D : va_G} {T : KT} {av : List Value} {w w' : va_W}  (own : String) (hown0 : y.cls = own) (hy : plainFor y = true) (hn : Nat.ble (lg_sl av).length n = true)
    (body : ∀ (E : KE) (A : Nat → Prop) (H : Heap) (ls : Array Slot), E.2.1 = l → kx_C E cc n none own fr lo D T → kx_H E D A H [] w → kx_RV E cc D A w'  → lv_has ls n (lv_args 0 av) → kx_W E H [] 0 ls []) :
    kx_MV l y cc n none fr lo D T av w w'  := by
  subst hown0
  intro sz
  refine kx_ofWF (cc := cc) (maxL := n) (ret := none) hy rfl ?_
  intro p e s m args below meth c s₁ B hml hv
  obtain ⟨rfl, hsz, hP, hK, hD0⟩ := hv
  have hts := atoms_spec (ws := kx_ws y cc n none) B.pre
  have hown : s.vm.findClass y.cls = some m.cls := findClass_of_methodNamed B.named
  subst hsz
  have hl := lv_entry av (n := n) (Nat.le_of_ble_eq_true hn)
  rw [lg_entry_eq]
  refine body (p, l, e, _, s, m, _, below, meth, c, _, 0, 0) (va_A w s.heap.size) s.heap _ rfl ⟨B.exec, B.bytes, B.returns, hml, hown, fun w hw => hts w (List.mem_cons_of_mem _ hw), hK, B.notSynchronized, rfl, rfl, Nat.zero_le _, Nat.zero_le _⟩ ⟨hP, hD0.self, va_S.rf, fun q h => Or.inr h⟩ ?_ hl
  intro H locs pc ls X d
  exact W.vret B.exec B.bytes B.returns (fun t ht hW => ⟨⟨(), rfl, trivial, by rw [ht]; exact X.1, va_K.moved hW.alike hK, X.2.1⟩, X.2.2.1.F ht⟩) X.2.2.1.2.2 d B.notSynchronized
/-- some places of a world get new cells -/
def kx_up : va_W → List Nat → va_W → va_W
  | w, i :: is, x :: xs => kx_up (w.set i x) is xs
  | w, _, _ => w
theorem kx_up_fst : ∀ (is : List Nat) (w xs : va_W), is.map (fun i => (w.map Prod.fst)[i]?) = xs.map (fun x => some x.1) → (kx_up w is xs).map Prod.fst = w.map Prod.fst
  | [], w, xs, _ => by cases xs <;> rfl
  | i :: is, w, [], h => by cases h
  | i :: is, w, x :: xs, h => by
    simp only [List.map_cons, List.cons.injEq] at h
    have h1 : (w.set i x).map Prod.fst = w.map Prod.fst := by
      rw [List.map_set]
      apply List.ext_getElem?
      intro j
      rw [List.getElem?_set]
      by_cases hj : i = j
      · subst hj
        rw [if_pos rfl]
        have hlt := (List.getElem?_eq_some_iff.mp h.1).1
        rw [if_pos hlt, h.1]
      · rw [if_neg hj]
    show (kx_up (w.set i x) is xs).map Prod.fst = _
    rw [kx_up_fst is (w.set i x) xs (by rw [h1]; exact h.2), h1]
theorem kx_up_at : ∀ (is : List Nat) (w xs : va_W), is.length = xs.length → ∀ (k : Nat) (q : Nat × va_E), (kx_up w is xs)[k]? = some q → (∃ j : Nat, xs[j]? = some q) ∨ (k ∉ is ∧ w[k]? = some q)
  | [], w, xs, hl, k, q, h => Or.inr ⟨List.not_mem_nil, by cases xs <;> exact h⟩
  | i :: is, w, [], hl, k, q, h => by cases hl
  | i :: is, w, x :: xs, hl, k, q, h => by
    rcases kx_up_at is (w.set i x) xs (by simpa using hl) k q h with ⟨j, hj⟩ | ⟨hk, hq⟩
    · exact Or.inl ⟨j + 1, hj⟩
    · by_cases hki : k = i
      · subst hki
        rw [List.getElem?_set] at hq
        rw [if_pos rfl] at hq
        by_cases hlt : k < w.length
        · rw [if_pos hlt] at hq
          exact Or.inl ⟨0, hq⟩
        · rw [if_neg hlt] at hq
          cases hq
      · rw [List.getElem?_set_ne (fun h => hki h.symm)] at hq
        exact Or.inr ⟨fun hm => by rcases List.mem_cons.mp hm with h | h; exact hki h; exact hk h, hq⟩
/-- behind a call: the caller's world with the callee's cells anew, in their places -/
theorem kx_join {A0 : Nat → Prop} {D : va_G} {cl : List vw_C} {w wc w1 : va_W} {H H1 : Heap} (hP : va_P D cl w H) (hD : va_D A0 w) (is : List Nat) (hC : is.map (fun i => w[i]?) = wc.map some) (ha : w1.map Prod.fst = wc.map Prod.fst)
    (hk : ∀ q : Nat, q < H.size → ¬ va_A wc H.size q → H1[q]? = H[q]?) (hP1 : va_P D cl w1 H1) : va_P D cl (kx_up w is w1) H1 ∧ va_D A0 (kx_up w is w1) := by
  have hlen : is.length = wc.length := by have := congrArg List.length hC; simpa using this
  have hlen1 : w1.length = wc.length := by have := congrArg List.length ha; simpa using this
  have hf : is.map (fun i => (w.map Prod.fst)[i]?) = w1.map (fun x => some x.1) := by
    have e1 : is.map (fun i => (w.map Prod.fst)[i]?) = (is.map (fun i => w[i]?)).map (Option.map Prod.fst) := by
      rw [List.map_map]; apply List.map_congr_left; intro i _; simp
    have e2 : w1.map (fun x => some x.1) = (w1.map Prod.fst).map some := by rw [List.map_map]; rfl
    rw [e1, hC, e2, ha, List.map_map, List.map_map]; rfl
  have hfst := kx_up_fst is w w1 hf
  have at' : ∀ (k : Nat) (q : Nat × va_E), (kx_up w is w1)[k]? = some q → ∃ q0, w[k]? = some q0 ∧ q0.1 = q.1 := by
    intro k q hq
    have h1 : ((kx_up w is w1).map Prod.fst)[k]? = some q.1 := by rw [List.getElem?_map, hq]; rfl
    rw [hfst, List.getElem?_map] at h1
    cases hw : w[k]? with
    | none => rw [hw] at h1; cases h1
    | some q0 => rw [hw] at h1; exact ⟨q0, rfl, Option.some.inj h1⟩
  refine ⟨fun k q hq => ?_, fun i j x y hx hy hxy => ?_, fun k q hq => ?_⟩
  · rcases kx_up_at is w w1 (by omega) k q hq with ⟨j, hj⟩ | ⟨hk1, hq1⟩
    · exact hP1 j q hj
    · refine (hP k q hq1).kept (hk q.1 (hP k q hq1).lt ?_)
      rintro (⟨j, e, hj⟩ | hge)
      · have h1 : (is.map (fun i => w[i]?))[j]? = some (some (q.1, e)) := by rw [hC, List.getElem?_map, hj]; rfl
        rw [List.getElem?_map] at h1
        cases hi : is[j]? with
        | none => rw [hi] at h1; cases h1
        | some i =>
          rw [hi] at h1
          have hw : w[i]? = some (q.1, e) := Option.some.inj h1
          have hik := hD.1 k i q (q.1, e) hq1 hw rfl
          subst hik
          exact hk1 (List.mem_of_getElem? hi)
      · exact absurd (hP k q hq1).lt (by omega)
  · obtain ⟨x0, h1, h2⟩ := at' i x hx
    obtain ⟨y0, h3, h4⟩ := at' j y hy
    exact hD.1 i j x0 y0 h1 h3 (h2.trans (hxy.trans h4.symm))
  · obtain ⟨q0, h1, h2⟩ := at' k q hq
    rw [← h2]
    exact hD.2 k q0 h1
/-- a callee's world among the caller's, and the caller's behind the call -/
def kx_J (w : va_W) (is : List Nat) (wc wc' w' : va_W) : Prop := va_nd is = true ∧ is.map (fun i => w[i]?) = wc.map some ∧ wc'.map Prod.fst = wc.map Prod.fst ∧ kx_up w is wc' = w'
theorem kx_codeGood {y : MethodName} {cc : ByteArray} {n : Nat} {r : Option FieldType} (h : Cond.code y cc n r ∈ lw_g) : GoodIn lw_g (kx_ws y cc n r) := fun w hw => (List.mem_cons.mp hw).elim (fun e => by rw [e]; exact kx_goodIn _ h) (fun h => kx_goodIn w h)
section KXC
variable {E : KE} {H : Heap} {locs : List Loc} {pc : Nat} {ls : Array Slot} {cc : ByteArray} {nL : Nat} {rt : Option FieldType} {own : String} {fr lo : Nat} {D : va_G} {T : KT} {A : Nat → Prop} {w : va_W}
theorem x_callVi (p2 : Nat) {y : MethodName} {cc1 : ByteArray} {n1 fr1 lo1 np index : Nat} {r1 : Option FieldType} {As st : List Value} {wc wc' : va_W} {v : Int32} {lv : List (Nat × Value)} {ci b : Nat} {fs : List Value} (C : kx_C E cc nL rt own fr lo D T) (d : decode cc pc = .ok (.invokevirtual index, 3)) (X : kx_H E D A H locs w) (hl : lv_has ls nL lv) (L : kx_LV own index y cc1 n1 r1 np) (M : kx_MI E.2.1 y cc1 n1 r1 fr1 lo1 D T (.ref b :: As) wc wc' v) (hb : wc[0]? = some (b, .inr (ci, fs))) (hcl : vwCl[ci]?.map (fun q => q.1) = some y.cls) (rest : List Value) (hst : st = As.reverse ++ .ref b :: rest) (hn : As.length = np) (hfr : Nat.ble (fr1 + 1) fr = true) (hlo : Nat.ble (8 + (n1 + 11) + lo1) lo = true) (hro : Nat.ble (rest.map fun v => v.category).sum 8 = true) {is : List Nat} {w' : va_W} (J : kx_J w is wc wc' w') (hp : pc + 3 = p2)
    (k : ∀ (H : Heap) (locs : List Loc), kx_H E D A H locs w' → kx_W E H locs p2 ls (.int v :: rest)) : kx_W E H locs pc ls st := by
  subst hp
  obtain ⟨hnd, hC, ha, hw'⟩ := J
  have hPc : va_P D vwCl wc H := X.1.sub is (by
    have h := congrArg (List.filterMap id) hC
    rw [List.filterMap_map, List.filterMap_map] at h
    simpa using h)
  have hDc : va_D A wc := X.2.1.sub is hnd hC
  have hFc := va_free (wc := wc) X.2.1 X.2.2.1 X.2.2.2 is hC
  have hrecv : ∃ cell : Cell, H[b]? = some cell ∧ cell.vm.isStatics = false ∧ E.2.2.2.2.1.vm.findClass y.cls = some cell.cls := by
    cases hq : vwCl[ci]? with
    | none => rw [hq] at hcl; cases hcl
    | some q =>
      rw [hq] at hcl
      have h1 := va_recv C.2.2.2.2.2.2.1 hPc (ci := ci) (q0 := 0) hq hb
      rw [show q.1 = y.cls from Option.some.inj hcl] at h1
      exact h1
  refine va_calli (va_runV (C := y.cls) (As := As) (rest := rest) ⟨C.1, C.2.1, C.2.2.2.1, C.2.2.2.2.1, C.2.2.2.2.2.1⟩ (M H.size) ⟨callB_of np C.2.2.2.2.2.1 (kx_codeGood L.2.2.2.2.1) rfl rfl rfl (C.2.2.2.2.2.1 _ L.2.2.2.1) (C.2.2.2.2.2.1 _ L.1) L.2.2.2.2.2 ⟨by rw [C.2.2.2.2.2.2.2.2.1]; exact Nat.le_of_ble_eq_true hfr, by rw [C.2.2.2.2.2.2.2.2.2.1]; exact Nat.le_of_ble_eq_true hlo⟩, C.2.2.2.2.2.1 _ L.2.1, C.2.2.2.2.2.1 _ L.2.2.1⟩ ⟨kx_blind, hrecv, fun U hU hW => ⟨rfl, by rw [hU], by rw [hU]; exact hPc, va_K.moved hW.alike C.2.2.2.2.2.2.1, hDc.weaken (fun _ _ _ _ => trivial)⟩⟩ rfl hn hl.1 hst (lv_room (Nat.le_of_ble_eq_true hro)) d ⟨C.2.2.2.2.2.2.2.2.2.2.1, C.2.2.2.2.2.2.2.2.2.2.2⟩) X.2.2.1 (fun q _ h => hFc q h) hFc (fun r u t H1 locs1 ht hvm hw hB hz1 hk1 hS => ?_)
  obtain ⟨hP1, hK1, hD1⟩ := hB
  rw [ht] at hP1
  subst hw
  obtain ⟨hP2, hD2⟩ := kx_join X.1 X.2.1 is hC ha hk1 hP1
  rw [hw'] at hP2 hD2
  exact k H1 locs1 ⟨hP2, hD2, hS, X.2.2.2⟩
theorem x_callVi0 (p2 : Nat) {y : MethodName} {cc1 : ByteArray} {n1 fr1 lo1 np index : Nat} {r1 : Option FieldType} {As st : List Value} {wc' : va_W} {v : Int32} {lv : List (Nat × Value)} {ci b : Nat} {fs : List Value} (C : kx_C E cc nL rt own fr lo D T) (d : decode cc pc = .ok (.invokevirtual index, 3)) (X : kx_H E D A H locs w) (hl : lv_has ls nL lv) (L : kx_LV own index y cc1 n1 r1 np) (M : kx_MI E.2.1 y cc1 n1 r1 fr1 lo1 D T (.ref b :: As) w wc' v) (hb : w[0]? = some (b, .inr (ci, fs))) (hcl : vwCl[ci]?.map (fun q => q.1) = some y.cls) (rest : List Value) (hst : st = As.reverse ++ .ref b :: rest) (hn : As.length = np) (hfr : Nat.ble (fr1 + 1) fr = true) (hlo : Nat.ble (8 + (n1 + 11) + lo1) lo = true) (hro : Nat.ble (rest.map fun v => v.category).sum 8 = true) (hp : pc + 3 = p2)
    (k : ∀ (H : Heap) (locs : List Loc), kx_H E D A H locs wc' → kx_W E H locs p2 ls (.int v :: rest)) : kx_W E H locs pc ls st := by
  subst hp
  have hPc : va_P D vwCl w H := X.1
  have hDc : va_D A w := X.2.1
  have hFc : ∀ q : Nat, va_A w H.size q → A q := fun q h => by
    rcases h with ⟨k, e, h⟩ | h
    · exact X.2.1.2 k (q, e) h
    · exact X.2.2.2 q (Nat.le_trans X.2.2.1.1 h)
  have hrecv : ∃ cell : Cell, H[b]? = some cell ∧ cell.vm.isStatics = false ∧ E.2.2.2.2.1.vm.findClass y.cls = some cell.cls := by
    cases hq : vwCl[ci]? with
    | none => rw [hq] at hcl; cases hcl
    | some q =>
      rw [hq] at hcl
      have h1 := va_recv C.2.2.2.2.2.2.1 hPc (ci := ci) (q0 := 0) hq hb
      rw [show q.1 = y.cls from Option.some.inj hcl] at h1
      exact h1
  refine va_calli (va_runV (C := y.cls) (As := As) (rest := rest) ⟨C.1, C.2.1, C.2.2.2.1, C.2.2.2.2.1, C.2.2.2.2.2.1⟩ (M H.size) ⟨callB_of np C.2.2.2.2.2.1 (kx_codeGood L.2.2.2.2.1) rfl rfl rfl (C.2.2.2.2.2.1 _ L.2.2.2.1) (C.2.2.2.2.2.1 _ L.1) L.2.2.2.2.2 ⟨by rw [C.2.2.2.2.2.2.2.2.1]; exact Nat.le_of_ble_eq_true hfr, by rw [C.2.2.2.2.2.2.2.2.2.1]; exact Nat.le_of_ble_eq_true hlo⟩, C.2.2.2.2.2.1 _ L.2.1, C.2.2.2.2.2.1 _ L.2.2.1⟩ ⟨kx_blind, hrecv, fun U hU hW => ⟨rfl, by rw [hU], by rw [hU]; exact hPc, va_K.moved hW.alike C.2.2.2.2.2.2.1, hDc.weaken (fun _ _ _ _ => trivial)⟩⟩ rfl hn hl.1 hst (lv_room (Nat.le_of_ble_eq_true hro)) d ⟨C.2.2.2.2.2.2.2.2.2.2.1, C.2.2.2.2.2.2.2.2.2.2.2⟩) X.2.2.1 (fun q _ h => hFc q h) hFc (fun r u t H1 locs1 ht hvm hw hB hz1 hk1 hS => ?_)
  obtain ⟨hP1, hK1, hD1⟩ := hB
  rw [ht] at hP1
  subst hw
  exact k H1 locs1 ⟨hP1, hD1.weaken (fun _ q _ h => hFc q.1 h), hS, X.2.2.2⟩
theorem x_callSi (p2 : Nat) {y : MethodName} {cc1 : ByteArray} {n1 fr1 lo1 np index : Nat} {r1 : Option FieldType} {As st : List Value} {wc wc' : va_W} {v : Int32} {lv : List (Nat × Value)} (C : kx_C E cc nL rt own fr lo D T) (d : decode cc pc = .ok (.invokestatic index, 3)) (X : kx_H E D A H locs w) (hl : lv_has ls nL lv) (L : kx_LS own index y cc1 n1 r1 np) (M : kx_MI E.2.1 y cc1 n1 r1 fr1 lo1 D T As wc wc' v) (rest : List Value) (hst : st = As.reverse ++ rest) (hn : As.length = np) (hfr : Nat.ble (fr1 + 1) fr = true) (hlo : Nat.ble (8 + (n1 + 11) + lo1) lo = true) (hro : Nat.ble (rest.map fun v => v.category).sum 8 = true) {is : List Nat} {w' : va_W} (J : kx_J w is wc wc' w') (hp : pc + 3 = p2)
    (k : ∀ (H : Heap) (locs : List Loc), kx_H E D A H locs w' → kx_W E H locs p2 ls (.int v :: rest)) : kx_W E H locs pc ls st := by
  subst hp
  obtain ⟨hnd, hC, ha, hw'⟩ := J
  have hPc : va_P D vwCl wc H := X.1.sub is (by
    have h := congrArg (List.filterMap id) hC
    rw [List.filterMap_map, List.filterMap_map] at h
    simpa using h)
  have hDc : va_D A wc := X.2.1.sub is hnd hC
  have hFc := va_free (wc := wc) X.2.1 X.2.2.1 X.2.2.2 is hC
  refine va_calli (va_runS (As := As) (rest := rest) ⟨C.1, C.2.1, C.2.2.2.1, C.2.2.2.2.1, C.2.2.2.2.2.1⟩ (M H.size) ⟨callB_of np C.2.2.2.2.2.1 (kx_codeGood L.2.2.2.1) rfl rfl rfl (C.2.2.2.2.2.1 _ L.2.2.1) (C.2.2.2.2.2.1 _ L.1) L.2.2.2.2 ⟨by rw [C.2.2.2.2.2.2.2.2.1]; exact Nat.le_of_ble_eq_true hfr, by rw [C.2.2.2.2.2.2.2.2.2.1]; exact Nat.le_of_ble_eq_true hlo⟩, C.2.2.2.2.2.1 _ L.2.1⟩ ⟨kx_blind, fun U hU hW => ⟨rfl, by rw [hU], by rw [hU]; exact hPc, va_K.moved hW.alike C.2.2.2.2.2.2.1, hDc.weaken (fun _ _ _ _ => trivial)⟩⟩ rfl hn hl.1 hst (lv_room (Nat.le_of_ble_eq_true hro)) d ⟨C.2.2.2.2.2.2.2.2.2.2.1, C.2.2.2.2.2.2.2.2.2.2.2⟩) X.2.2.1 (fun q _ h => hFc q h) hFc (fun r u t H1 locs1 ht hvm hw hB hz1 hk1 hS => ?_)
  obtain ⟨hP1, hK1, hD1⟩ := hB
  rw [ht] at hP1
  subst hw
  obtain ⟨hP2, hD2⟩ := kx_join X.1 X.2.1 is hC ha hk1 hP1
  rw [hw'] at hP2 hD2
  exact k H1 locs1 ⟨hP2, hD2, hS, X.2.2.2⟩
theorem x_callSi0 (p2 : Nat) {y : MethodName} {cc1 : ByteArray} {n1 fr1 lo1 np index : Nat} {r1 : Option FieldType} {As st : List Value} {wc' : va_W} {v : Int32} {lv : List (Nat × Value)} (C : kx_C E cc nL rt own fr lo D T) (d : decode cc pc = .ok (.invokestatic index, 3)) (X : kx_H E D A H locs w) (hl : lv_has ls nL lv) (L : kx_LS own index y cc1 n1 r1 np) (M : kx_MI E.2.1 y cc1 n1 r1 fr1 lo1 D T As w wc' v) (rest : List Value) (hst : st = As.reverse ++ rest) (hn : As.length = np) (hfr : Nat.ble (fr1 + 1) fr = true) (hlo : Nat.ble (8 + (n1 + 11) + lo1) lo = true) (hro : Nat.ble (rest.map fun v => v.category).sum 8 = true) (hp : pc + 3 = p2)
    (k : ∀ (H : Heap) (locs : List Loc), kx_H E D A H locs wc' → kx_W E H locs p2 ls (.int v :: rest)) : kx_W E H locs pc ls st := by
  subst hp
  have hPc : va_P D vwCl w H := X.1
  have hDc : va_D A w := X.2.1
  have hFc : ∀ q : Nat, va_A w H.size q → A q := fun q h => by
    rcases h with ⟨k, e, h⟩ | h
    · exact X.2.1.2 k (q, e) h
    · exact X.2.2.2 q (Nat.le_trans X.2.2.1.1 h)
  refine va_calli (va_runS (As := As) (rest := rest) ⟨C.1, C.2.1, C.2.2.2.1, C.2.2.2.2.1, C.2.2.2.2.2.1⟩ (M H.size) ⟨callB_of np C.2.2.2.2.2.1 (kx_codeGood L.2.2.2.1) rfl rfl rfl (C.2.2.2.2.2.1 _ L.2.2.1) (C.2.2.2.2.2.1 _ L.1) L.2.2.2.2 ⟨by rw [C.2.2.2.2.2.2.2.2.1]; exact Nat.le_of_ble_eq_true hfr, by rw [C.2.2.2.2.2.2.2.2.2.1]; exact Nat.le_of_ble_eq_true hlo⟩, C.2.2.2.2.2.1 _ L.2.1⟩ ⟨kx_blind, fun U hU hW => ⟨rfl, by rw [hU], by rw [hU]; exact hPc, va_K.moved hW.alike C.2.2.2.2.2.2.1, hDc.weaken (fun _ _ _ _ => trivial)⟩⟩ rfl hn hl.1 hst (lv_room (Nat.le_of_ble_eq_true hro)) d ⟨C.2.2.2.2.2.2.2.2.2.2.1, C.2.2.2.2.2.2.2.2.2.2.2⟩) X.2.2.1 (fun q _ h => hFc q h) hFc (fun r u t H1 locs1 ht hvm hw hB hz1 hk1 hS => ?_)
  obtain ⟨hP1, hK1, hD1⟩ := hB
  rw [ht] at hP1
  subst hw
  exact k H1 locs1 ⟨hP1, hD1.weaken (fun _ q _ h => hFc q.1 h), hS, X.2.2.2⟩
theorem x_callVl (p2 : Nat) {y : MethodName} {cc1 : ByteArray} {n1 fr1 lo1 np index : Nat} {r1 : Option FieldType} {As st : List Value} {wc wc' : va_W} {v : Int64} {lv : List (Nat × Value)} {ci b : Nat} {fs : List Value} (C : kx_C E cc nL rt own fr lo D T) (d : decode cc pc = .ok (.invokevirtual index, 3)) (X : kx_H E D A H locs w) (hl : lv_has ls nL lv) (L : kx_LV own index y cc1 n1 r1 np) (M : kx_ML E.2.1 y cc1 n1 r1 fr1 lo1 D T (.ref b :: As) wc wc' v) (hb : wc[0]? = some (b, .inr (ci, fs))) (hcl : vwCl[ci]?.map (fun q => q.1) = some y.cls) (rest : List Value) (hst : st = As.reverse ++ .ref b :: rest) (hn : As.length = np) (hfr : Nat.ble (fr1 + 1) fr = true) (hlo : Nat.ble (8 + (n1 + 11) + lo1) lo = true) (hro : Nat.ble (rest.map fun v => v.category).sum 8 = true) {is : List Nat} {w' : va_W} (J : kx_J w is wc wc' w') (hp : pc + 3 = p2)
    (k : ∀ (H : Heap) (locs : List Loc), kx_H E D A H locs w' → kx_W E H locs p2 ls (.long v :: rest)) : kx_W E H locs pc ls st := by
  subst hp
  obtain ⟨hnd, hC, ha, hw'⟩ := J
  have hPc : va_P D vwCl wc H := X.1.sub is (by
    have h := congrArg (List.filterMap id) hC
    rw [List.filterMap_map, List.filterMap_map] at h
    simpa using h)
  have hDc : va_D A wc := X.2.1.sub is hnd hC
  have hFc := va_free (wc := wc) X.2.1 X.2.2.1 X.2.2.2 is hC
  have hrecv : ∃ cell : Cell, H[b]? = some cell ∧ cell.vm.isStatics = false ∧ E.2.2.2.2.1.vm.findClass y.cls = some cell.cls := by
    cases hq : vwCl[ci]? with
    | none => rw [hq] at hcl; cases hcl
    | some q =>
      rw [hq] at hcl
      have h1 := va_recv C.2.2.2.2.2.2.1 hPc (ci := ci) (q0 := 0) hq hb
      rw [show q.1 = y.cls from Option.some.inj hcl] at h1
      exact h1
  refine va_calll (va_runV (C := y.cls) (As := As) (rest := rest) ⟨C.1, C.2.1, C.2.2.2.1, C.2.2.2.2.1, C.2.2.2.2.2.1⟩ (M H.size) ⟨callB_of np C.2.2.2.2.2.1 (kx_codeGood L.2.2.2.2.1) rfl rfl rfl (C.2.2.2.2.2.1 _ L.2.2.2.1) (C.2.2.2.2.2.1 _ L.1) L.2.2.2.2.2 ⟨by rw [C.2.2.2.2.2.2.2.2.1]; exact Nat.le_of_ble_eq_true hfr, by rw [C.2.2.2.2.2.2.2.2.2.1]; exact Nat.le_of_ble_eq_true hlo⟩, C.2.2.2.2.2.1 _ L.2.1, C.2.2.2.2.2.1 _ L.2.2.1⟩ ⟨kx_blind, hrecv, fun U hU hW => ⟨rfl, by rw [hU], by rw [hU]; exact hPc, va_K.moved hW.alike C.2.2.2.2.2.2.1, hDc.weaken (fun _ _ _ _ => trivial)⟩⟩ rfl hn hl.1 hst (lv_room (Nat.le_of_ble_eq_true hro)) d ⟨C.2.2.2.2.2.2.2.2.2.2.1, C.2.2.2.2.2.2.2.2.2.2.2⟩) X.2.2.1 (fun q _ h => hFc q h) hFc (fun r u t H1 locs1 ht hvm hw hB hz1 hk1 hS => ?_)
  obtain ⟨hP1, hK1, hD1⟩ := hB
  rw [ht] at hP1
  subst hw
  obtain ⟨hP2, hD2⟩ := kx_join X.1 X.2.1 is hC ha hk1 hP1
  rw [hw'] at hP2 hD2
  exact k H1 locs1 ⟨hP2, hD2, hS, X.2.2.2⟩
theorem x_callVl0 (p2 : Nat) {y : MethodName} {cc1 : ByteArray} {n1 fr1 lo1 np index : Nat} {r1 : Option FieldType} {As st : List Value} {wc' : va_W} {v : Int64} {lv : List (Nat × Value)} {ci b : Nat} {fs : List Value} (C : kx_C E cc nL rt own fr lo D T) (d : decode cc pc = .ok (.invokevirtual index, 3)) (X : kx_H E D A H locs w) (hl : lv_has ls nL lv) (L : kx_LV own index y cc1 n1 r1 np) (M : kx_ML E.2.1 y cc1 n1 r1 fr1 lo1 D T (.ref b :: As) w wc' v) (hb : w[0]? = some (b, .inr (ci, fs))) (hcl : vwCl[ci]?.map (fun q => q.1) = some y.cls) (rest : List Value) (hst : st = As.reverse ++ .ref b :: rest) (hn : As.length = np) (hfr : Nat.ble (fr1 + 1) fr = true) (hlo : Nat.ble (8 + (n1 + 11) + lo1) lo = true) (hro : Nat.ble (rest.map fun v => v.category).sum 8 = true) (hp : pc + 3 = p2)
    (k : ∀ (H : Heap) (locs : List Loc), kx_H E D A H locs wc' → kx_W E H locs p2 ls (.long v :: rest)) : kx_W E H locs pc ls st := by
  subst hp
  have hPc : va_P D vwCl w H := X.1
  have hDc : va_D A w := X.2.1
  have hFc : ∀ q : Nat, va_A w H.size q → A q := fun q h => by
    rcases h with ⟨k, e, h⟩ | h
    · exact X.2.1.2 k (q, e) h
    · exact X.2.2.2 q (Nat.le_trans X.2.2.1.1 h)
  have hrecv : ∃ cell : Cell, H[b]? = some cell ∧ cell.vm.isStatics = false ∧ E.2.2.2.2.1.vm.findClass y.cls = some cell.cls := by
    cases hq : vwCl[ci]? with
    | none => rw [hq] at hcl; cases hcl
    | some q =>
      rw [hq] at hcl
      have h1 := va_recv C.2.2.2.2.2.2.1 hPc (ci := ci) (q0 := 0) hq hb
      rw [show q.1 = y.cls from Option.some.inj hcl] at h1
      exact h1
  refine va_calll (va_runV (C := y.cls) (As := As) (rest := rest) ⟨C.1, C.2.1, C.2.2.2.1, C.2.2.2.2.1, C.2.2.2.2.2.1⟩ (M H.size) ⟨callB_of np C.2.2.2.2.2.1 (kx_codeGood L.2.2.2.2.1) rfl rfl rfl (C.2.2.2.2.2.1 _ L.2.2.2.1) (C.2.2.2.2.2.1 _ L.1) L.2.2.2.2.2 ⟨by rw [C.2.2.2.2.2.2.2.2.1]; exact Nat.le_of_ble_eq_true hfr, by rw [C.2.2.2.2.2.2.2.2.2.1]; exact Nat.le_of_ble_eq_true hlo⟩, C.2.2.2.2.2.1 _ L.2.1, C.2.2.2.2.2.1 _ L.2.2.1⟩ ⟨kx_blind, hrecv, fun U hU hW => ⟨rfl, by rw [hU], by rw [hU]; exact hPc, va_K.moved hW.alike C.2.2.2.2.2.2.1, hDc.weaken (fun _ _ _ _ => trivial)⟩⟩ rfl hn hl.1 hst (lv_room (Nat.le_of_ble_eq_true hro)) d ⟨C.2.2.2.2.2.2.2.2.2.2.1, C.2.2.2.2.2.2.2.2.2.2.2⟩) X.2.2.1 (fun q _ h => hFc q h) hFc (fun r u t H1 locs1 ht hvm hw hB hz1 hk1 hS => ?_)
  obtain ⟨hP1, hK1, hD1⟩ := hB
  rw [ht] at hP1
  subst hw
  exact k H1 locs1 ⟨hP1, hD1.weaken (fun _ q _ h => hFc q.1 h), hS, X.2.2.2⟩
theorem x_callSl (p2 : Nat) {y : MethodName} {cc1 : ByteArray} {n1 fr1 lo1 np index : Nat} {r1 : Option FieldType} {As st : List Value} {wc wc' : va_W} {v : Int64} {lv : List (Nat × Value)} (C : kx_C E cc nL rt own fr lo D T) (d : decode cc pc = .ok (.invokestatic index, 3)) (X : kx_H E D A H locs w) (hl : lv_has ls nL lv) (L : kx_LS own index y cc1 n1 r1 np) (M : kx_ML E.2.1 y cc1 n1 r1 fr1 lo1 D T As wc wc' v) (rest : List Value) (hst : st = As.reverse ++ rest) (hn : As.length = np) (hfr : Nat.ble (fr1 + 1) fr = true) (hlo : Nat.ble (8 + (n1 + 11) + lo1) lo = true) (hro : Nat.ble (rest.map fun v => v.category).sum 8 = true) {is : List Nat} {w' : va_W} (J : kx_J w is wc wc' w') (hp : pc + 3 = p2)
    (k : ∀ (H : Heap) (locs : List Loc), kx_H E D A H locs w' → kx_W E H locs p2 ls (.long v :: rest)) : kx_W E H locs pc ls st := by
  subst hp
  obtain ⟨hnd, hC, ha, hw'⟩ := J
  have hPc : va_P D vwCl wc H := X.1.sub is (by
    have h := congrArg (List.filterMap id) hC
    rw [List.filterMap_map, List.filterMap_map] at h
    simpa using h)
  have hDc : va_D A wc := X.2.1.sub is hnd hC
  have hFc := va_free (wc := wc) X.2.1 X.2.2.1 X.2.2.2 is hC
  refine va_calll (va_runS (As := As) (rest := rest) ⟨C.1, C.2.1, C.2.2.2.1, C.2.2.2.2.1, C.2.2.2.2.2.1⟩ (M H.size) ⟨callB_of np C.2.2.2.2.2.1 (kx_codeGood L.2.2.2.1) rfl rfl rfl (C.2.2.2.2.2.1 _ L.2.2.1) (C.2.2.2.2.2.1 _ L.1) L.2.2.2.2 ⟨by rw [C.2.2.2.2.2.2.2.2.1]; exact Nat.le_of_ble_eq_true hfr, by rw [C.2.2.2.2.2.2.2.2.2.1]; exact Nat.le_of_ble_eq_true hlo⟩, C.2.2.2.2.2.1 _ L.2.1⟩ ⟨kx_blind, fun U hU hW => ⟨rfl, by rw [hU], by rw [hU]; exact hPc, va_K.moved hW.alike C.2.2.2.2.2.2.1, hDc.weaken (fun _ _ _ _ => trivial)⟩⟩ rfl hn hl.1 hst (lv_room (Nat.le_of_ble_eq_true hro)) d ⟨C.2.2.2.2.2.2.2.2.2.2.1, C.2.2.2.2.2.2.2.2.2.2.2⟩) X.2.2.1 (fun q _ h => hFc q h) hFc (fun r u t H1 locs1 ht hvm hw hB hz1 hk1 hS => ?_)
  obtain ⟨hP1, hK1, hD1⟩ := hB
  rw [ht] at hP1
  subst hw
  obtain ⟨hP2, hD2⟩ := kx_join X.1 X.2.1 is hC ha hk1 hP1
  rw [hw'] at hP2 hD2
  exact k H1 locs1 ⟨hP2, hD2, hS, X.2.2.2⟩
theorem x_callSl0 (p2 : Nat) {y : MethodName} {cc1 : ByteArray} {n1 fr1 lo1 np index : Nat} {r1 : Option FieldType} {As st : List Value} {wc' : va_W} {v : Int64} {lv : List (Nat × Value)} (C : kx_C E cc nL rt own fr lo D T) (d : decode cc pc = .ok (.invokestatic index, 3)) (X : kx_H E D A H locs w) (hl : lv_has ls nL lv) (L : kx_LS own index y cc1 n1 r1 np) (M : kx_ML E.2.1 y cc1 n1 r1 fr1 lo1 D T As w wc' v) (rest : List Value) (hst : st = As.reverse ++ rest) (hn : As.length = np) (hfr : Nat.ble (fr1 + 1) fr = true) (hlo : Nat.ble (8 + (n1 + 11) + lo1) lo = true) (hro : Nat.ble (rest.map fun v => v.category).sum 8 = true) (hp : pc + 3 = p2)
    (k : ∀ (H : Heap) (locs : List Loc), kx_H E D A H locs wc' → kx_W E H locs p2 ls (.long v :: rest)) : kx_W E H locs pc ls st := by
  subst hp
  have hPc : va_P D vwCl w H := X.1
  have hDc : va_D A w := X.2.1
  have hFc : ∀ q : Nat, va_A w H.size q → A q := fun q h => by
    rcases h with ⟨k, e, h⟩ | h
    · exact X.2.1.2 k (q, e) h
    · exact X.2.2.2 q (Nat.le_trans X.2.2.1.1 h)
  refine va_calll (va_runS (As := As) (rest := rest) ⟨C.1, C.2.1, C.2.2.2.1, C.2.2.2.2.1, C.2.2.2.2.2.1⟩ (M H.size) ⟨callB_of np C.2.2.2.2.2.1 (kx_codeGood L.2.2.2.1) rfl rfl rfl (C.2.2.2.2.2.1 _ L.2.2.1) (C.2.2.2.2.2.1 _ L.1) L.2.2.2.2 ⟨by rw [C.2.2.2.2.2.2.2.2.1]; exact Nat.le_of_ble_eq_true hfr, by rw [C.2.2.2.2.2.2.2.2.2.1]; exact Nat.le_of_ble_eq_true hlo⟩, C.2.2.2.2.2.1 _ L.2.1⟩ ⟨kx_blind, fun U hU hW => ⟨rfl, by rw [hU], by rw [hU]; exact hPc, va_K.moved hW.alike C.2.2.2.2.2.2.1, hDc.weaken (fun _ _ _ _ => trivial)⟩⟩ rfl hn hl.1 hst (lv_room (Nat.le_of_ble_eq_true hro)) d ⟨C.2.2.2.2.2.2.2.2.2.2.1, C.2.2.2.2.2.2.2.2.2.2.2⟩) X.2.2.1 (fun q _ h => hFc q h) hFc (fun r u t H1 locs1 ht hvm hw hB hz1 hk1 hS => ?_)
  obtain ⟨hP1, hK1, hD1⟩ := hB
  rw [ht] at hP1
  subst hw
  exact k H1 locs1 ⟨hP1, hD1.weaken (fun _ q _ h => hFc q.1 h), hS, X.2.2.2⟩
theorem x_callVv (p2 : Nat) {y : MethodName} {cc1 : ByteArray} {n1 fr1 lo1 np index : Nat} {r1 : Option FieldType} {As st : List Value} {wc wc' : va_W}  {lv : List (Nat × Value)} {ci b : Nat} {fs : List Value} (C : kx_C E cc nL rt own fr lo D T) (d : decode cc pc = .ok (.invokevirtual index, 3)) (X : kx_H E D A H locs w) (hl : lv_has ls nL lv) (L : kx_LV own index y cc1 n1 r1 np) (M : kx_MV E.2.1 y cc1 n1 r1 fr1 lo1 D T (.ref b :: As) wc wc') (hb : wc[0]? = some (b, .inr (ci, fs))) (hcl : vwCl[ci]?.map (fun q => q.1) = some y.cls) (rest : List Value) (hst : st = As.reverse ++ .ref b :: rest) (hn : As.length = np) (hfr : Nat.ble (fr1 + 1) fr = true) (hlo : Nat.ble (8 + (n1 + 11) + lo1) lo = true) (hro : Nat.ble (rest.map fun v => v.category).sum 8 = true) {is : List Nat} {w' : va_W} (J : kx_J w is wc wc' w') (hp : pc + 3 = p2)
    (k : ∀ (H : Heap) (locs : List Loc), kx_H E D A H locs w' → kx_W E H locs p2 ls rest) : kx_W E H locs pc ls st := by
  subst hp
  obtain ⟨hnd, hC, ha, hw'⟩ := J
  have hPc : va_P D vwCl wc H := X.1.sub is (by
    have h := congrArg (List.filterMap id) hC
    rw [List.filterMap_map, List.filterMap_map] at h
    simpa using h)
  have hDc : va_D A wc := X.2.1.sub is hnd hC
  have hFc := va_free (wc := wc) X.2.1 X.2.2.1 X.2.2.2 is hC
  have hrecv : ∃ cell : Cell, H[b]? = some cell ∧ cell.vm.isStatics = false ∧ E.2.2.2.2.1.vm.findClass y.cls = some cell.cls := by
    cases hq : vwCl[ci]? with
    | none => rw [hq] at hcl; cases hcl
    | some q =>
      rw [hq] at hcl
      have h1 := va_recv C.2.2.2.2.2.2.1 hPc (ci := ci) (q0 := 0) hq hb
      rw [show q.1 = y.cls from Option.some.inj hcl] at h1
      exact h1
  refine va_callv (va_runV (C := y.cls) (As := As) (rest := rest) ⟨C.1, C.2.1, C.2.2.2.1, C.2.2.2.2.1, C.2.2.2.2.2.1⟩ (M H.size) ⟨callB_of np C.2.2.2.2.2.1 (kx_codeGood L.2.2.2.2.1) rfl rfl rfl (C.2.2.2.2.2.1 _ L.2.2.2.1) (C.2.2.2.2.2.1 _ L.1) L.2.2.2.2.2 ⟨by rw [C.2.2.2.2.2.2.2.2.1]; exact Nat.le_of_ble_eq_true hfr, by rw [C.2.2.2.2.2.2.2.2.2.1]; exact Nat.le_of_ble_eq_true hlo⟩, C.2.2.2.2.2.1 _ L.2.1, C.2.2.2.2.2.1 _ L.2.2.1⟩ ⟨kx_blind, hrecv, fun U hU hW => ⟨rfl, by rw [hU], by rw [hU]; exact hPc, va_K.moved hW.alike C.2.2.2.2.2.2.1, hDc.weaken (fun _ _ _ _ => trivial)⟩⟩ rfl hn hl.1 hst (lv_room (Nat.le_of_ble_eq_true hro)) d ⟨C.2.2.2.2.2.2.2.2.2.2.1, C.2.2.2.2.2.2.2.2.2.2.2⟩) X.2.2.1 (fun q _ h => hFc q h) hFc (fun u t H1 locs1 ht hvm hw hB hz1 hk1 hS => ?_)
  obtain ⟨hP1, hK1, hD1⟩ := hB
  rw [ht] at hP1
  obtain ⟨hP2, hD2⟩ := kx_join X.1 X.2.1 is hC ha hk1 hP1
  rw [hw'] at hP2 hD2
  exact k H1 locs1 ⟨hP2, hD2, hS, X.2.2.2⟩
theorem x_callVv0 (p2 : Nat) {y : MethodName} {cc1 : ByteArray} {n1 fr1 lo1 np index : Nat} {r1 : Option FieldType} {As st : List Value} {wc' : va_W}  {lv : List (Nat × Value)} {ci b : Nat} {fs : List Value} (C : kx_C E cc nL rt own fr lo D T) (d : decode cc pc = .ok (.invokevirtual index, 3)) (X : kx_H E D A H locs w) (hl : lv_has ls nL lv) (L : kx_LV own index y cc1 n1 r1 np) (M : kx_MV E.2.1 y cc1 n1 r1 fr1 lo1 D T (.ref b :: As) w wc') (hb : w[0]? = some (b, .inr (ci, fs))) (hcl : vwCl[ci]?.map (fun q => q.1) = some y.cls) (rest : List Value) (hst : st = As.reverse ++ .ref b :: rest) (hn : As.length = np) (hfr : Nat.ble (fr1 + 1) fr = true) (hlo : Nat.ble (8 + (n1 + 11) + lo1) lo = true) (hro : Nat.ble (rest.map fun v => v.category).sum 8 = true) (hp : pc + 3 = p2)
    (k : ∀ (H : Heap) (locs : List Loc), kx_H E D A H locs wc' → kx_W E H locs p2 ls rest) : kx_W E H locs pc ls st := by
  subst hp
  have hPc : va_P D vwCl w H := X.1
  have hDc : va_D A w := X.2.1
  have hFc : ∀ q : Nat, va_A w H.size q → A q := fun q h => by
    rcases h with ⟨k, e, h⟩ | h
    · exact X.2.1.2 k (q, e) h
    · exact X.2.2.2 q (Nat.le_trans X.2.2.1.1 h)
  have hrecv : ∃ cell : Cell, H[b]? = some cell ∧ cell.vm.isStatics = false ∧ E.2.2.2.2.1.vm.findClass y.cls = some cell.cls := by
    cases hq : vwCl[ci]? with
    | none => rw [hq] at hcl; cases hcl
    | some q =>
      rw [hq] at hcl
      have h1 := va_recv C.2.2.2.2.2.2.1 hPc (ci := ci) (q0 := 0) hq hb
      rw [show q.1 = y.cls from Option.some.inj hcl] at h1
      exact h1
  refine va_callv (va_runV (C := y.cls) (As := As) (rest := rest) ⟨C.1, C.2.1, C.2.2.2.1, C.2.2.2.2.1, C.2.2.2.2.2.1⟩ (M H.size) ⟨callB_of np C.2.2.2.2.2.1 (kx_codeGood L.2.2.2.2.1) rfl rfl rfl (C.2.2.2.2.2.1 _ L.2.2.2.1) (C.2.2.2.2.2.1 _ L.1) L.2.2.2.2.2 ⟨by rw [C.2.2.2.2.2.2.2.2.1]; exact Nat.le_of_ble_eq_true hfr, by rw [C.2.2.2.2.2.2.2.2.2.1]; exact Nat.le_of_ble_eq_true hlo⟩, C.2.2.2.2.2.1 _ L.2.1, C.2.2.2.2.2.1 _ L.2.2.1⟩ ⟨kx_blind, hrecv, fun U hU hW => ⟨rfl, by rw [hU], by rw [hU]; exact hPc, va_K.moved hW.alike C.2.2.2.2.2.2.1, hDc.weaken (fun _ _ _ _ => trivial)⟩⟩ rfl hn hl.1 hst (lv_room (Nat.le_of_ble_eq_true hro)) d ⟨C.2.2.2.2.2.2.2.2.2.2.1, C.2.2.2.2.2.2.2.2.2.2.2⟩) X.2.2.1 (fun q _ h => hFc q h) hFc (fun u t H1 locs1 ht hvm hw hB hz1 hk1 hS => ?_)
  obtain ⟨hP1, hK1, hD1⟩ := hB
  rw [ht] at hP1
  exact k H1 locs1 ⟨hP1, hD1.weaken (fun _ q _ h => hFc q.1 h), hS, X.2.2.2⟩
theorem x_callSv (p2 : Nat) {y : MethodName} {cc1 : ByteArray} {n1 fr1 lo1 np index : Nat} {r1 : Option FieldType} {As st : List Value} {wc wc' : va_W}  {lv : List (Nat × Value)} (C : kx_C E cc nL rt own fr lo D T) (d : decode cc pc = .ok (.invokestatic index, 3)) (X : kx_H E D A H locs w) (hl : lv_has ls nL lv) (L : kx_LS own index y cc1 n1 r1 np) (M : kx_MV E.2.1 y cc1 n1 r1 fr1 lo1 D T As wc wc') (rest : List Value) (hst : st = As.reverse ++ rest) (hn : As.length = np) (hfr : Nat.ble (fr1 + 1) fr = true) (hlo : Nat.ble (8 + (n1 + 11) + lo1) lo = true) (hro : Nat.ble (rest.map fun v => v.category).sum 8 = true) {is : List Nat} {w' : va_W} (J : kx_J w is wc wc' w') (hp : pc + 3 = p2)
    (k : ∀ (H : Heap) (locs : List Loc), kx_H E D A H locs w' → kx_W E H locs p2 ls rest) : kx_W E H locs pc ls st := by
  subst hp
  obtain ⟨hnd, hC, ha, hw'⟩ := J
  have hPc : va_P D vwCl wc H := X.1.sub is (by
    have h := congrArg (List.filterMap id) hC
    rw [List.filterMap_map, List.filterMap_map] at h
    simpa using h)
  have hDc : va_D A wc := X.2.1.sub is hnd hC
  have hFc := va_free (wc := wc) X.2.1 X.2.2.1 X.2.2.2 is hC
  refine va_callv (va_runS (As := As) (rest := rest) ⟨C.1, C.2.1, C.2.2.2.1, C.2.2.2.2.1, C.2.2.2.2.2.1⟩ (M H.size) ⟨callB_of np C.2.2.2.2.2.1 (kx_codeGood L.2.2.2.1) rfl rfl rfl (C.2.2.2.2.2.1 _ L.2.2.1) (C.2.2.2.2.2.1 _ L.1) L.2.2.2.2 ⟨by rw [C.2.2.2.2.2.2.2.2.1]; exact Nat.le_of_ble_eq_true hfr, by rw [C.2.2.2.2.2.2.2.2.2.1]; exact Nat.le_of_ble_eq_true hlo⟩, C.2.2.2.2.2.1 _ L.2.1⟩ ⟨kx_blind, fun U hU hW => ⟨rfl, by rw [hU], by rw [hU]; exact hPc, va_K.moved hW.alike C.2.2.2.2.2.2.1, hDc.weaken (fun _ _ _ _ => trivial)⟩⟩ rfl hn hl.1 hst (lv_room (Nat.le_of_ble_eq_true hro)) d ⟨C.2.2.2.2.2.2.2.2.2.2.1, C.2.2.2.2.2.2.2.2.2.2.2⟩) X.2.2.1 (fun q _ h => hFc q h) hFc (fun u t H1 locs1 ht hvm hw hB hz1 hk1 hS => ?_)
  obtain ⟨hP1, hK1, hD1⟩ := hB
  rw [ht] at hP1
  obtain ⟨hP2, hD2⟩ := kx_join X.1 X.2.1 is hC ha hk1 hP1
  rw [hw'] at hP2 hD2
  exact k H1 locs1 ⟨hP2, hD2, hS, X.2.2.2⟩
theorem x_callSv0 (p2 : Nat) {y : MethodName} {cc1 : ByteArray} {n1 fr1 lo1 np index : Nat} {r1 : Option FieldType} {As st : List Value} {wc' : va_W}  {lv : List (Nat × Value)} (C : kx_C E cc nL rt own fr lo D T) (d : decode cc pc = .ok (.invokestatic index, 3)) (X : kx_H E D A H locs w) (hl : lv_has ls nL lv) (L : kx_LS own index y cc1 n1 r1 np) (M : kx_MV E.2.1 y cc1 n1 r1 fr1 lo1 D T As w wc') (rest : List Value) (hst : st = As.reverse ++ rest) (hn : As.length = np) (hfr : Nat.ble (fr1 + 1) fr = true) (hlo : Nat.ble (8 + (n1 + 11) + lo1) lo = true) (hro : Nat.ble (rest.map fun v => v.category).sum 8 = true) (hp : pc + 3 = p2)
    (k : ∀ (H : Heap) (locs : List Loc), kx_H E D A H locs wc' → kx_W E H locs p2 ls rest) : kx_W E H locs pc ls st := by
  subst hp
  have hPc : va_P D vwCl w H := X.1
  have hDc : va_D A w := X.2.1
  have hFc : ∀ q : Nat, va_A w H.size q → A q := fun q h => by
    rcases h with ⟨k, e, h⟩ | h
    · exact X.2.1.2 k (q, e) h
    · exact X.2.2.2 q (Nat.le_trans X.2.2.1.1 h)
  refine va_callv (va_runS (As := As) (rest := rest) ⟨C.1, C.2.1, C.2.2.2.1, C.2.2.2.2.1, C.2.2.2.2.2.1⟩ (M H.size) ⟨callB_of np C.2.2.2.2.2.1 (kx_codeGood L.2.2.2.1) rfl rfl rfl (C.2.2.2.2.2.1 _ L.2.2.1) (C.2.2.2.2.2.1 _ L.1) L.2.2.2.2 ⟨by rw [C.2.2.2.2.2.2.2.2.1]; exact Nat.le_of_ble_eq_true hfr, by rw [C.2.2.2.2.2.2.2.2.2.1]; exact Nat.le_of_ble_eq_true hlo⟩, C.2.2.2.2.2.1 _ L.2.1⟩ ⟨kx_blind, fun U hU hW => ⟨rfl, by rw [hU], by rw [hU]; exact hPc, va_K.moved hW.alike C.2.2.2.2.2.2.1, hDc.weaken (fun _ _ _ _ => trivial)⟩⟩ rfl hn hl.1 hst (lv_room (Nat.le_of_ble_eq_true hro)) d ⟨C.2.2.2.2.2.2.2.2.2.2.1, C.2.2.2.2.2.2.2.2.2.2.2⟩) X.2.2.1 (fun q _ h => hFc q h) hFc (fun u t H1 locs1 ht hvm hw hB hz1 hk1 hS => ?_)
  obtain ⟨hP1, hK1, hD1⟩ := hB
  rw [ht] at hP1
  exact k H1 locs1 ⟨hP1, hD1.weaken (fun _ q _ h => hFc q.1 h), hS, X.2.2.2⟩
end KXC
