def kx_nests : List (String × Nat × MethodName × String) := [(RX10, 11, yX0_init, "CubicSigns"), (RX10, 20, yX8_init, "CubicSigns"), (RX10, 27, yX1_init, "CubicSigns"), (RX10, 34, yX4_init, "CubicSigns"), (RX10, 41, yX2_init, "CubicSigns"), (RX10, 48, yX6_init, "CubicSigns"), (RX10, 55, yX7_init, "CubicSigns"), (RX10, 62, yX3_init, "CubicSigns"), (RX10, 69, yX5_init, "CubicSigns"), (RX1, 9, yX5_init, "CubicSigns"), (RX2, 21, yX1_init, "CubicSigns"), (RX2, 28, yX5_init, "CubicSigns"), (RX4, 18, yX5_init, "CubicSigns"), (RX6, 20, yX5_init, "CubicSigns")]
/-! ===== what constructors need: new cells, counted ===== -/
def kE (E : KE) (ce sl : Nat) : KE := (E.1, E.2.1, E.2.2.1, E.2.2.2.1, E.2.2.2.2.1, E.2.2.2.2.2.1, E.2.2.2.2.2.2.1, E.2.2.2.2.2.2.2.1, E.2.2.2.2.2.2.2.2.1, E.2.2.2.2.2.2.2.2.2.1, E.2.2.2.2.2.2.2.2.2.2.1, ce, sl)
/-- what a class's new object is -/
def kx_N (own : String) (index ci N : Nat) (fs : List Value) : Prop :=
  ∃ (C : String) (Tb : u_T) (ty : Nat → FieldType), (∀ w ∈ u_ws C Tb N, w ∈ lw_g) ∧ (∀ k, k < N → parseFieldDescriptor (Tb k).2.2.1 = some (ty k)) ∧ Cond.classLink own index C ∈ lw_g ∧ Cond.instantiable C N ∈ lw_g ∧ Cond.initialized C ∈ lw_g ∧ vwCl[ci]? = some (C, Tb, N) ∧ ∀ j, j < N → defaultValue (ty j) = vp_V fs j
def kx_FF (own : String) (index ci k : Nat) (ty : FieldType) : Prop :=
  ∃ (C : String) (Tb : u_T) (N : Nat) (tyf : Nat → FieldType), (∀ w ∈ u_ws C Tb N, w ∈ lw_g) ∧ vwCl[ci]? = some (C, Tb, N) ∧ k < N ∧ Cond.fieldLink own index (Tb k).1 (Tb k).2.1 (Tb k).2.2.1 ∈ lw_g ∧ (∀ k, k < N → parseFieldDescriptor (Tb k).2.2.1 = some (tyf k)) ∧ (∀ a, a < N → ∀ b, b < N → a ≠ b → (Tb a).2.1 ≠ (Tb b).2.1) ∧ (Tb k).2.2.2 = true ∧ (Tb k).1 = own ∧ parseFieldDescriptor (Tb k).2.2.1 = some ty
/-- the links to nest mates' constructors -/
def kNw (U : State) : Prop := ∀ q ∈ kx_nests, va_Nw (.methodLinkNest q.1 q.2.1 q.2.2.1 q.2.2.2) U
theorem kNw.warm {s U : State} (hW : s.WarmedH U.vm) (h : kNw s) : kNw U := fun q hq => va_Nw.warmM hW (h q hq)
theorem kNw.same {u U : State} (e : u.vm = U.vm) (h : kNw u) : kNw U := fun q hq => va_Nw.same rfl e (h q hq)
/-- a constructor's link -/
def kx_LI (own : String) (index : Nat) (y : MethodName) (cc : ByteArray) (n : Nat) : Prop :=
  (∃ host, (own, index, y, host) ∈ kx_nests) ∧ Cond.instanceMethod y ∈ lw_g ∧ Cond.initialized y.cls ∈ lw_g ∧ Cond.code y cc n none ∈ lw_g ∧ y.name = "<init>" ∧ (y.cls ≠ "java/lang/invoke/MethodHandle" ∧ y.cls ≠ "java/lang/invoke/VarHandle" ∧ (parseMethodDescriptor y.desc).map (fun d => d.parameters.length) = some 0)
def kx_LJ (own : String) (index : Nat) (y : MethodName) (cc : ByteArray) (n : Nat) : Prop :=
  Cond.methodLink own index y ∈ lw_g ∧ Cond.instanceMethod y ∈ lw_g ∧ Cond.initialized y.cls ∈ lw_g ∧ Cond.code y cc n none ∈ lw_g ∧ y.name = "<init>" ∧ (y.cls ≠ "java/lang/invoke/MethodHandle" ∧ y.cls ≠ "java/lang/invoke/VarHandle" ∧ (parseMethodDescriptor y.desc).map (fun d => d.parameters.length) = some 0)
/-- a constructor's contract: WF u: the world that it makes, its cells at u -/
def ky_MV (l : Launch) (y : MethodName) (cc : ByteArray) (n fr lo mc ms : Nat) (D : va_G) (T : KT) (b : Nat) (w : va_W) (WF : (Nat → Nat) → va_W) : Prop :=
  ∀ sz : Nat, Met l y (kx_ws y cc n none) { frames := fr, cells := mc, slots := ms, locals := lo } (va_Pc [.ref b] (fun U => kx_B D T w sz U ∧ kNw U)) (va_Qv (fun u : Nat → Nat => u 0 = b) (fun u t => va_P D vwCl (WF u) t.heap ∧ va_K D vwCl (kx_tys T) t ∧ va_D (va_A w sz) (WF u)) (va_A w sz)) mc ms (va_A w sz)
def ky_RV (E : KE) (mc ms : Nat) (cc : ByteArray) (D : va_G) (A : Nat → Prop) (b : Nat) (WF : (Nat → Nat) → va_W) : Prop := ∀ (H : Heap) (locs : List Loc) (pc : Nat) (ls : Array Slot) (u : Nat → Nat), u 0 = b → kx_H (kE E mc ms) D A H locs (WF u) → decode cc pc = .ok (.return_, 1) → kx_W (kE E mc ms) H locs pc ls []
theorem ky_ofMV {l : Launch} {y : MethodName} {cc : ByteArray} {n fr lo mc ms : Nat} {D : va_G} {T : KT} {b : Nat} {w : va_W} {WF : (Nat → Nat) → va_W} (own : String) (hown0 : y.cls = own) (hy : plainFor y = true) (hn : Nat.ble 1 n = true)
    (body : ∀ (E : KE) (A : Nat → Prop) (H : Heap) (ls : Array Slot), E.2.1 = l → (∀ ce sl, Nat.ble ce mc = true → Nat.ble sl ms = true → kx_C (kE E ce sl) cc n none own fr lo D T) → E.2.2.2.2.2.2.2.2.1.name = y.name → kNw E.2.2.2.2.1 → kx_H (kE E 0 0) D A H [] w → ky_RV E mc ms cc D A b WF → lv_has ls n [(0, .ref b)] → kx_W (kE E 0 0) H [] 0 ls []) :
    ky_MV l y cc n fr lo mc ms D T b w WF := by
  subst hown0
  intro sz
  refine kx_ofWF (cc := cc) (maxL := n) (ret := none) hy rfl ?_
  intro p e s m args below meth c s₁ B hml hv
  obtain ⟨rfl, ⟨hsz, hP, hK, hD0⟩, hNw⟩ := hv
  have hts := atoms_spec (ws := kx_ws y cc n none) B.pre
  have hown : s.vm.findClass y.cls = some m.cls := findClass_of_methodNamed B.named
  subst hsz
  have hl := lv_entry [Value.ref b] (n := n) (Nat.le_of_ble_eq_true hn)
  rw [lg_entry_eq]
  refine body (p, l, e, _, s, m, _, below, meth, c, _, 0, 0) (va_A w s.heap.size) s.heap _ rfl (fun ce sl hce hsl => ⟨B.exec, B.bytes, B.returns, hml, hown, fun w hw => hts w (List.mem_cons_of_mem _ hw), hK, B.notSynchronized, rfl, rfl, Nat.le_of_ble_eq_true hce, Nat.le_of_ble_eq_true hsl⟩) (name_of_methodNamed B.named B.method).1 hNw ⟨hP, hD0.self, va_S.rf, fun q h => Or.inr h⟩ ?_ hl
  intro H locs pc ls u hu X d
  exact W.vret B.exec B.bytes B.returns (fun t ht hW => ⟨⟨u, rfl, hu, by rw [ht]; exact X.1, va_K.moved hW.alike hK, X.2.1⟩, X.2.2.1.F ht⟩) X.2.2.1.2.2 d B.notSynchronized
section KYR
variable {E : KE} {H : Heap} {locs : List Loc} {pc : Nat} {ls : Array Slot} {rest : List Value} {cc : ByteArray} {nL : Nat} {rt : Option FieldType} {own : String} {fr lo : Nat} {D : va_G} {T : KT} {A : Nat → Prop} {w : va_W} {ce sl : Nat}
theorem x_objInit (p2 : Nat) {index : Nat} {lv : List (Nat × Value)} (C : kx_C E cc nL rt own fr lo D T) (d : decode cc pc = .ok (.invokespecial index, 3)) (hl : lv_has ls nL lv) (hm : Cond.methodLink own index objectInit ∈ lw_g) (hi : Cond.instanceMethod objectInit ∈ lw_g) (hc : Cond.code objectInit ⟨#[0xb1]⟩ 1 none ∈ lw_g) {a : Nat} (hfr : Nat.ble 1 fr = true) (hlo : Nat.ble 12 lo = true) (hp : pc + 3 = p2) (k : kx_W E H locs p2 ls []) : kx_W E H locs pc ls [.ref a] := by
  subst hp
  refine W.objInit C.1 C.2.1 C.2.2.2.2.1 (C.2.2.2.2.2.1 _ hm) (C.2.2.2.2.2.1 _ hi) (C.2.2.2.2.2.1 _ hc) rfl (by rw [C.2.2.2.1]; exact hl.1) (rest := []) rfl d (by rw [C.2.2.2.2.2.2.2.2.1]; exact Nat.le_of_ble_eq_true hfr) (by rw [C.2.2.2.2.2.2.2.2.2.1]; exact Nat.le_of_ble_eq_true hlo) k
theorem x_new (p2 : Nat) {index ci N : Nat} {fs : List Value} (C : kx_C (kE E ce sl) cc nL rt own fr lo D T) (d : decode cc pc = .ok (.new index, 3)) (X : kx_H (kE E ce sl) D A H locs w) (F : kx_N own index ci N fs) {ce2 sl2 : Nat} (C2 : kx_C (kE E ce2 sl2) cc nL rt own fr lo D T) (hce : ce + 1 = ce2) (hsl : sl + N = sl2) (hp : pc + 3 = p2) (k : ∀ (q : Nat) (H : Heap), kx_H (kE E ce2 sl2) D A H locs (w ++ [(q, .inr (ci, fs))]) → kx_W (kE E ce2 sl2) H locs p2 ls (.ref q :: rest)) : kx_W (kE E ce sl) H locs pc ls rest := by
  subst hp; subst hce; subst hsl
  obtain ⟨Cn, Tb, ty, f1, f2, f3, f4, f5, f6, f7⟩ := F
  exact va_new C.1 C.2.1 C.2.2.2.2.2.1 f1 ty f2 C.2.2.2.2.1 (C.2.2.2.2.2.1 _ f3) (C.2.2.2.2.2.1 _ f4) (C.2.2.2.2.2.1 _ f5) C.2.2.2.2.2.2.1 X.1 X.2.1 X.2.2.1 X.2.2.2 f6 f7 C2.2.2.2.2.2.2.2.2.2.2.1 C2.2.2.2.2.2.2.2.2.2.2.2 d (fun q H1 hP hD hS => k q H1 ⟨hP, hD, hS, X.2.2.2⟩)
theorem kx_sameArr {U : State} {a b : ClassId} {ty : FieldType} (h : ∀ C, ty ≠ .object C) (h1 : va_RA U a ty) (h2 : va_RA U b ty) : a = b := by
  cases ty with
  | object C => exact absurd rfl (h C)
  | _ => exact Option.some.inj (h1.symm.trans h2)
theorem x_newa (p2 : Nat) (atype : ArrayType) {ty : FieldType} {cA : ClassId} (t0 : Nat) (N : Nat) (a0 : vp_A) (C : kx_C (kE E ce sl) cc nL rt own fr lo D T) (d : decode cc pc = .ok (.newarray atype, 2)) (X : kx_H (kE E ce sl) D A H locs w) (hm : Cond.arrayClass ty ∈ lw_g) (hty : newarray.typeOf atype = ty) (ht : (kx_tys T)[t0]? = some (cA, ty)) (hob : ∀ C, ty ≠ .object C) (ha : ∀ cA : ClassId, vp_cell cA a0 = arrV cA N (fun _ => defaultValue ty)) {n : Int32} (hn : ¬ n < 0) (hN : n.toNatClampNeg = N) (hby : N * componentBytes ty ≤ 536870912) {ce2 sl2 : Nat} (C2 : kx_C (kE E ce2 sl2) cc nL rt own fr lo D T) (hce : ce + 1 = ce2) (hsl : sl + N = sl2) (hp : pc + 2 = p2) (k : ∀ (q : Nat) (H : Heap), kx_H (kE E ce2 sl2) D A H locs (w ++ [(q, .inl (cA, a0))]) → kx_W (kE E ce2 sl2) H locs p2 ls (.ref q :: rest)) : kx_W (kE E ce sl) H locs pc ls (.int n :: rest) := by
  subst hp; subst hce; subst hsl; subst hty
  refine va_newa C.1 C.2.1 (atype := atype) (C.2.2.2.2.2.1 _ hm) rfl C.2.2.2.2.2.2.1 X.1 X.2.1 X.2.2.1 X.2.2.2 ha hn hN hby C2.2.2.2.2.2.2.2.2.2.2.1 C2.2.2.2.2.2.2.2.2.2.2.2 d (fun q cB H1 hK hP hD hS => ?_)
  have e : cB = cA := kx_sameArr hob (hK.2 4 _ rfl).2 (C.2.2.2.2.2.2.1.2 t0 _ ht).2
  subst e
  exact k q H1 ⟨hP, hD, hS, X.2.2.2⟩
theorem x_putF (p2 : Nat) {index ci j : Nat} {ty : FieldType} (C : kx_C E cc nL rt own fr lo D T) (d : decode cc pc = .ok (.putfield index, 3)) (X : kx_H E D A H locs w) (F : kx_FF own index ci j ty) (hin : E.2.2.2.2.2.2.2.2.1.name = "<init>") (q0 : Nat) {a : Nat} {fs : List Value} (he : w[q0]? = some (a, .inr (ci, fs))) {v : Value} (hn : narrow ty v = v) (hfit : fits ty v = true) (hl : Nat.ble (j + 1) fs.length = true) (w' : va_W) (hw : w.set q0 (a, .inr (ci, fs.set j v)) = w') (hp : pc + 3 = p2) (k : ∀ (H : Heap) (locs : List Loc), kx_H E D A H locs w' → kx_W E H locs p2 ls rest) : kx_W E H locs pc ls (v :: .ref a :: rest) := by
  subst hp
  obtain ⟨Cn, Tb, N, tyf, f1, f2, f3, f4, f5, f6, f7, f8, f9⟩ := F
  refine va_putF C.1 C.2.1 C.2.2.2.2.2.1 f1 tyf f5 f6 C.2.2.2.2.1 C.2.2.2.2.2.2.1 X.1 X.2.1 X.2.2.1 q0 he f2 j f3 (C.2.2.2.2.2.1 _ f4) (fun _ h => h) f7 hin f8 f9 hn hfit (Nat.le_of_ble_eq_true hl) d (fun H1 locs1 hP hD hS => ?_)
  rw [hw] at hP hD
  exact k H1 locs1 ⟨hP, hD, hS, X.2.2.2⟩
theorem x_callI (p2 : Nat) {y : MethodName} {cc1 : ByteArray} {n1 fr1 lo1 mc1 ms1 index b : Nat} {wc wr : va_W} {WF : (Nat → Nat) → va_W} {lv : List (Nat × Value)} (C : kx_C (kE E ce sl) cc nL rt own fr lo D T) (hNw : kNw E.2.2.2.2.1) (d : decode cc pc = .ok (.invokespecial index, 3)) (X : kx_H (kE E ce sl) D A H locs w) (hl : lv_has ls nL lv) (L : kx_LI own index y cc1 n1) (M : ky_MV E.2.1 y cc1 n1 fr1 lo1 mc1 ms1 D T b wc WF) (hfr : Nat.ble (fr1 + 1) fr = true) (hlo : Nat.ble (8 + (n1 + 11) + lo1) lo = true) (hro : Nat.ble (rest.map fun v => v.category).sum 8 = true) (isC isR : List Nat) (hnC : va_nd isC = true) (hC : isC.map (fun i => w[i]?) = wc.map some) (hR : isR.map (fun i => w[i]?) = wr.map some) (hnR : va_nd isR = true) (hdis : ∀ i ∈ isR, i ∉ isC) {ce2 sl2 : Nat} (C2 : kx_C (kE E ce2 sl2) cc nL rt own fr lo D T) (hce : ce + mc1 = ce2) (hsl : sl + ms1 = sl2) (hp : pc + 3 = p2)
    (k : ∀ (u : Nat → Nat) (H : Heap) (locs : List Loc), u 0 = b → kx_H (kE E ce2 sl2) D A H locs (wr ++ WF u) → kx_W (kE E ce2 sl2) H locs p2 ls rest) : kx_W (kE E ce sl) H locs pc ls (.ref b :: rest) := by
  subst hp; subst hce; subst hsl
  have hPc : va_P D vwCl wc H := X.1.sub isC (by
    have h := congrArg (List.filterMap id) hC
    rw [List.filterMap_map, List.filterMap_map] at h
    simpa using h)
  have hDc : va_D A wc := X.2.1.sub isC hnC hC
  have hFc := va_free (wc := wc) X.2.1 X.2.2.1 X.2.2.2 isC hC
  obtain ⟨host, hm9⟩ := L.1
  refine va_callv (va_runIN (As := []) (rest := rest) ⟨C.1, C.2.1, C.2.2.2.1, C.2.2.2.2.1, C.2.2.2.2.2.1⟩ (M H.size) ⟨va_cnB 0 C.2.2.2.2.2.1 (kx_codeGood L.2.2.2.1) rfl rfl rfl (hNw _ hm9) (C.2.2.2.2.2.1 _ L.2.2.1) L.2.2.2.2.2 ⟨by rw [C.2.2.2.2.2.2.2.2.1]; exact Nat.le_of_ble_eq_true hfr, by rw [C.2.2.2.2.2.2.2.2.2.1]; exact Nat.le_of_ble_eq_true hlo⟩, L.2.2.2.2.1, C.2.2.2.2.2.1 _ L.2.1⟩ ⟨fun a U g mk q => ⟨(kx_blind (av := [.ref b]) a U g mk ⟨q.1, q.2.1⟩).1, (kx_blind (av := [.ref b]) a U g mk ⟨q.1, q.2.1⟩).2, kNw.same (u := U) (U := U.calling g mk a) rfl q.2.2⟩, fun U hU hW => ⟨rfl, ⟨by rw [hU], by rw [hU]; exact hPc, va_K.moved hW.alike C.2.2.2.2.2.2.1, hDc.weaken (fun _ _ _ _ => trivial)⟩, kNw.warm hW hNw⟩⟩ rfl rfl hl.1 rfl (lv_room (Nat.le_of_ble_eq_true hro)) d ⟨C2.2.2.2.2.2.2.2.2.2.2.1, C2.2.2.2.2.2.2.2.2.2.2.2⟩) X.2.2.1 (fun q _ h => hFc q h) hFc (fun u t H1 locs1 ht hvm hw hB hz1 hk1 hS => ?_)
  obtain ⟨hP1, hK1, hD1⟩ := hB
  rw [ht] at hP1
  obtain ⟨hP2, hD2⟩ := va_join (wr := wr) (w1 := WF u) X.1 X.2.1 isC isR hC hR hnR hdis hk1 hFc hP1 hD1
  exact k u H1 locs1 hw ⟨hP2, hD2, hS, X.2.2.2⟩
theorem x_callJ (p2 : Nat) {y : MethodName} {cc1 : ByteArray} {n1 fr1 lo1 mc1 ms1 index b : Nat} {wc wr : va_W} {WF : (Nat → Nat) → va_W} {lv : List (Nat × Value)} (C : kx_C (kE E ce sl) cc nL rt own fr lo D T) (hNw : kNw E.2.2.2.2.1) (d : decode cc pc = .ok (.invokespecial index, 3)) (X : kx_H (kE E ce sl) D A H locs w) (hl : lv_has ls nL lv) (L : kx_LJ own index y cc1 n1) (M : ky_MV E.2.1 y cc1 n1 fr1 lo1 mc1 ms1 D T b wc WF) (hfr : Nat.ble (fr1 + 1) fr = true) (hlo : Nat.ble (8 + (n1 + 11) + lo1) lo = true) (hro : Nat.ble (rest.map fun v => v.category).sum 8 = true) (isC isR : List Nat) (hnC : va_nd isC = true) (hC : isC.map (fun i => w[i]?) = wc.map some) (hR : isR.map (fun i => w[i]?) = wr.map some) (hnR : va_nd isR = true) (hdis : ∀ i ∈ isR, i ∉ isC) {ce2 sl2 : Nat} (C2 : kx_C (kE E ce2 sl2) cc nL rt own fr lo D T) (hce : ce + mc1 = ce2) (hsl : sl + ms1 = sl2) (hp : pc + 3 = p2)
    (k : ∀ (u : Nat → Nat) (H : Heap) (locs : List Loc), u 0 = b → kx_H (kE E ce2 sl2) D A H locs (wr ++ WF u) → kx_W (kE E ce2 sl2) H locs p2 ls rest) : kx_W (kE E ce sl) H locs pc ls (.ref b :: rest) := by
  subst hp; subst hce; subst hsl
  have hPc : va_P D vwCl wc H := X.1.sub isC (by
    have h := congrArg (List.filterMap id) hC
    rw [List.filterMap_map, List.filterMap_map] at h
    simpa using h)
  have hDc : va_D A wc := X.2.1.sub isC hnC hC
  have hFc := va_free (wc := wc) X.2.1 X.2.2.1 X.2.2.2 isC hC
  refine va_callv (va_runI (As := []) (rest := rest) ⟨C.1, C.2.1, C.2.2.2.1, C.2.2.2.2.1, C.2.2.2.2.2.1⟩ (M H.size) ⟨callB_of 0 C.2.2.2.2.2.1 (kx_codeGood L.2.2.2.1) rfl rfl rfl (C.2.2.2.2.2.1 _ L.2.2.1) (C.2.2.2.2.2.1 _ L.1) L.2.2.2.2.2 ⟨by rw [C.2.2.2.2.2.2.2.2.1]; exact Nat.le_of_ble_eq_true hfr, by rw [C.2.2.2.2.2.2.2.2.2.1]; exact Nat.le_of_ble_eq_true hlo⟩, L.2.2.2.2.1, C.2.2.2.2.2.1 _ L.2.1⟩ ⟨fun a U g mk q => ⟨(kx_blind (av := [.ref b]) a U g mk ⟨q.1, q.2.1⟩).1, (kx_blind (av := [.ref b]) a U g mk ⟨q.1, q.2.1⟩).2, kNw.same (u := U) (U := U.calling g mk a) rfl q.2.2⟩, fun U hU hW => ⟨rfl, ⟨by rw [hU], by rw [hU]; exact hPc, va_K.moved hW.alike C.2.2.2.2.2.2.1, hDc.weaken (fun _ _ _ _ => trivial)⟩, kNw.warm hW hNw⟩⟩ rfl rfl hl.1 rfl (lv_room (Nat.le_of_ble_eq_true hro)) d ⟨C2.2.2.2.2.2.2.2.2.2.2.1, C2.2.2.2.2.2.2.2.2.2.2.2⟩) X.2.2.1 (fun q _ h => hFc q h) hFc (fun u t H1 locs1 ht hvm hw hB hz1 hk1 hS => ?_)
  obtain ⟨hP1, hK1, hD1⟩ := hB
  rw [ht] at hP1
  obtain ⟨hP2, hD2⟩ := va_join (wr := wr) (w1 := WF u) X.1 X.2.1 isC isR hC hR hnR hdis hk1 hFc hP1 hD1
  exact k u H1 locs1 hw ⟨hP2, hD2, hS, X.2.2.2⟩
end KYR
