theorem kin_X0 : Cond.instantiable RX0 7 ∈ lw_g := (kx_t1 (List.mem_of_getElem? (i := 23) (by decide +kernel)) rfl)
theorem kin_X1 : Cond.instantiable RX1 10 ∈ lw_g := (kx_t1 (List.mem_of_getElem? (i := 88) (by decide +kernel)) rfl)
theorem kin_X2 : Cond.instantiable RX2 10 ∈ lw_g := (kx_t1 (List.mem_of_getElem? (i := 177) (by decide +kernel)) rfl)
theorem kin_X3 : Cond.instantiable RX3 2 ∈ lw_g := (kx_t2 (List.mem_of_getElem? (i := 26) (by decide +kernel)) rfl)
theorem kin_X4 : Cond.instantiable RX4 4 ∈ lw_g := (kx_t1 (List.mem_of_getElem? (i := 154) (by decide +kernel)) rfl)
theorem kin_X5 : Cond.instantiable RX5 2 ∈ lw_g := (kx_t1 (List.mem_of_getElem? (i := 94) (by decide +kernel)) rfl)
theorem kin_X6 : Cond.instantiable RX6 4 ∈ lw_g := (kx_t1 (List.mem_of_getElem? (i := 221) (by decide +kernel)) rfl)
theorem kin_X7 : Cond.instantiable RX7 4 ∈ lw_g := (kx_t2 (List.mem_of_getElem? (i := 3) (by decide +kernel)) rfl)
theorem kin_X8 : Cond.instantiable RX8 8 ∈ lw_g := (kx_t1 (List.mem_of_getElem? (i := 54) (by decide +kernel)) rfl)
theorem kin_X10 : Cond.instantiable RX10 15 ∈ lw_g := (kx_t1 (List.mem_of_getElem? (i := 15) (by decide +kernel)) rfl)
theorem kin_X11 : Cond.instantiable RX11 50 ∈ lw_g := (kx_t5 (List.mem_of_getElem? (i := 74) (by decide +kernel)) rfl)
theorem kNw_of {args : Array Value} {s : State} (hts : ∀ w ∈ lw_tbl, w.before args s = true) : kNw s := by
  unfold kNw kx_nests
  exact List.forall_mem_cons.mpr ⟨va_Nw.of rfl (hts _ (List.mem_append_right _ (List.mem_of_getElem? (l := tables_1) (i := 24) (by decide +kernel)))), List.forall_mem_cons.mpr ⟨va_Nw.of rfl (hts _ (List.mem_append_right _ (List.mem_of_getElem? (l := tables_1) (i := 55) (by decide +kernel)))), List.forall_mem_cons.mpr ⟨va_Nw.of rfl (hts _ (List.mem_append_right _ (List.mem_of_getElem? (l := tables_1) (i := 89) (by decide +kernel)))), List.forall_mem_cons.mpr ⟨va_Nw.of rfl (hts _ (List.mem_append_right _ (List.mem_of_getElem? (l := tables_1) (i := 155) (by decide +kernel)))), List.forall_mem_cons.mpr ⟨va_Nw.of rfl (hts _ (List.mem_append_right _ (List.mem_of_getElem? (l := tables_1) (i := 178) (by decide +kernel)))), List.forall_mem_cons.mpr ⟨va_Nw.of rfl (hts _ (List.mem_append_right _ (List.mem_of_getElem? (l := tables_1) (i := 222) (by decide +kernel)))), List.forall_mem_cons.mpr ⟨va_Nw.of rfl (hts _ (List.mem_append_right _ (List.mem_of_getElem? (l := tables_1) (i := 244) (by decide +kernel)))), List.forall_mem_cons.mpr ⟨va_Nw.of rfl (hts _ (List.mem_append_right _ (List.mem_of_getElem? (l := tables_1) (i := 267) (by decide +kernel)))), List.forall_mem_cons.mpr ⟨va_Nw.of rfl (hts _ (List.mem_append_right _ (List.mem_of_getElem? (l := tables_1) (i := 280) (by decide +kernel)))), List.forall_mem_cons.mpr ⟨va_Nw.of rfl (hts _ (List.mem_append_right _ (List.mem_of_getElem? (l := tables_1) (i := 95) (by decide +kernel)))), List.forall_mem_cons.mpr ⟨va_Nw.of rfl (hts _ (List.mem_append_right _ (List.mem_of_getElem? (l := tables_1) (i := 183) (by decide +kernel)))), List.forall_mem_cons.mpr ⟨va_Nw.of rfl (hts _ (List.mem_append_right _ (List.mem_of_getElem? (l := tables_1) (i := 185) (by decide +kernel)))), List.forall_mem_cons.mpr ⟨va_Nw.of rfl (hts _ (List.mem_append_right _ (List.mem_of_getElem? (l := tables_1) (i := 160) (by decide +kernel)))), List.forall_mem_cons.mpr ⟨va_Nw.of rfl (hts _ (List.mem_append_right _ (List.mem_of_getElem? (l := tables_1) (i := 227) (by decide +kernel)))), fun _ h => absurd h List.not_mem_nil⟩⟩⟩⟩⟩⟩⟩⟩⟩⟩⟩⟩⟩⟩
/-! THE CLAIM OUT OF ONE WALK OF THE LAW'S BODY. Your part is whole_start (and what it stands on); all else here is the same for every law, but numbers. -/
def R_law : String := "CubicSignsLaw"
def lw_P (b : Addr) (xs : List Int32) (args : Array Value) (s : State) : Prop := args = #[.ref b] ∧ s.IntsAt b xs ∧ xs.length ≤ 3072 ∧ (Jvm.Cond.and given_1 narrow_1).before args s = true
/-- what a walk over the start with the record d0 says of its end, said of the start itself -/
theorem lw_closed {s t : State} {o : Outcome} {d0 : Drawn} {L : List Loc} {k n : Nat} (hd0 : s.drawn.sameBut d0 lw_cs) (hv : ∃ v, o = .returned v) (hW : (s.setDrawn d0).WarmedH t.vm) (hs : (s.setDrawn d0).sameButNew ({ t with vm := s.vm } : State) L k n) : State.butDraws s t lw_cs (fun t1 => Framed s o t1 L k n) := by
  have h2 : t.drawn = d0 := congrArg State.drawn hs.1
  refine ⟨⟨hv, hW, State.sameButNew.setDrawn hs s.drawn⟩, ?_, by decide⟩
  rw [h2]
  exact hd0
def lw_Q (_ : Array Value) (s : State) (o : Outcome) (t : State) : Prop := o = .returned (some (.int 1)) ∧ State.butDraws s t lw_cs (fun t1 => Framed s o t1 [] 69 11044)
def lw_Z (below : List Frame) (a : Array Value) (s : State) : State → Prop := fun t => ∃ o, t.status = .running ∧ Ended t below o ∧ lw_Q a s o t
/-- the law's own end, with 1 on the stack, nothing written that was there before, its room as the claim has it; d0: the record of draws at this point (at the entry s.drawn: begin with 'refine W.base ?_' and 'have hd0 := Drawn.sameBut.refl s.drawn lw_cs') -/
theorem lw_ret {p : Program} {l : Launch} {e : Env} {s : State} {m : MethodId} {below : List Frame} {meth : Method} {c : Code} {b : Nat} {d0 : Drawn} (hd0 : s.drawn.sameBut d0 lw_cs) (hx : p.tables.exec = Jvm.exec) (hb : c.code = code) (hr : meth.sig.returnType = ret) (hlocks : meth.locks = false) {pc : Nat} {H : Heap} {ls : Array Slot} (hdg : decode code pc = .ok (.ireturn, 1)) : W p l e room_1 (s.setDrawn d0) m #[Value.ref b] below meth c H [] 69 11044 (lw_Z below #[Value.ref b] s) (F0 m pc ls [.int 1]) := by
  intro T hT X
  obtain ⟨fs, hret, hrun, hended, hW, hframe⟩ := X.leave (v := some (.int 1)) (hlocks := hlocks) (fun h => by rw [hr] at h; cases h)
  have hmeth' : T.vm.method? m = some meth := X.method'
  refine ⟨T.setFrames fs, ?_, .returned (some (.int 1)), hrun, hended, rfl, lw_closed hd0 ⟨_, rfl⟩ hW hframe⟩
  jvm_step X.here [X.here.top, hx, hb, hdg, hmeth', hr, ret, narrow_b1]
  (try refine ⟨rfl, ?_⟩); (try refine ⟨rfl, ?_⟩)
  first | (intro acts; rw [hret _ acts rfl rfl rfl]) | rw [hret _ _ rfl rfl rfl]
  exact Steps.refl _
/-- what holds at the law's entry: the machine, the code, the tables' words (any of lw_tbl by 'hts w (by decide +kernel)'), the script of L ints xs at the cell b, what the Statement gives of the start (any of its parts by flat_of_before) -/
def lw_At (p : Program) (s : State) (m : MethodId) (meth : Method) (c : Code) (b L : Nat) (xs : Nat → Int32) : Prop :=
  p.tables.exec = Jvm.exec ∧ c.code = code ∧ meth.sig.returnType = ret ∧ c.maxLocals = 4 ∧ s.vm.findClass R_law = some m.cls ∧ (∀ w ∈ lw_tbl, w.before #[Value.ref b] s = true) ∧ va_X b L xs s s.heap ∧ b < s.heap.size ∧ meth.locks = false ∧ (Jvm.Cond.and given_1 narrow_1).before #[Value.ref b] s = true
-- ===== YOUR PART BEGINS =====
set_option maxHeartbeats 4000000 in
set_option maxRecDepth 100000 in
/-- from the entry, for every script of at most 3072 ints, the law comes to its end with true ('hflags': the launch's flags, for a law that throws: no stack traces) -/
theorem whole_start {p : Program} {e : Env} {s : State} {m : MethodId} {below : List Frame} {meth : Method} {c : Code} (l : Launch) (hflags : l.flags = flags0) {b L : Nat} {xs : Nat → Int32} (hL : L ≤ 3072) (C0 : lw_At p s m meth c b L xs) : W p l e room_1 s m #[Value.ref b] below meth c s.heap [] 0 0 (lw_Z below #[Value.ref b] s) (entryFrame m ([Value.ref b] : List Value).toArray 4) := by
  obtain ⟨hx, hb, hr, hml, hown, hts, hX, hbl, hlocks, hgv⟩ := id C0
  have htg : ∀ w ∈ lw_g, w.before #[Value.ref b] s = true := fun w h => hts w (List.mem_filter.mp h).1
  obtain ⟨c0, i0, kn0⟩ := u_known (C := RX0) (T := TX0) (N := 7) (n := 7) htg ku_X0 (htg _ kin_X0)
  obtain ⟨c1, i1, kn1⟩ := u_known (C := RX1) (T := TX1) (N := 10) (n := 10) htg ku_X1 (htg _ kin_X1)
  obtain ⟨c2, i2, kn2⟩ := u_known (C := RX2) (T := TX2) (N := 10) (n := 10) htg ku_X2 (htg _ kin_X2)
  obtain ⟨c3, i3, kn3⟩ := u_known (C := RX3) (T := TX3) (N := 2) (n := 2) htg ku_X3 (htg _ kin_X3)
  obtain ⟨c4, i4, kn4⟩ := u_known (C := RX4) (T := TX4) (N := 4) (n := 4) htg ku_X4 (htg _ kin_X4)
  obtain ⟨c5, i5, kn5⟩ := u_known (C := RX5) (T := TX5) (N := 2) (n := 2) htg ku_X5 (htg _ kin_X5)
  obtain ⟨c6, i6, kn6⟩ := u_known (C := RX6) (T := TX6) (N := 4) (n := 4) htg ku_X6 (htg _ kin_X6)
  obtain ⟨c7, i7, kn7⟩ := u_known (C := RX7) (T := TX7) (N := 4) (n := 4) htg ku_X7 (htg _ kin_X7)
  obtain ⟨c8, i8, kn8⟩ := u_known (C := RX8) (T := TX8) (N := 8) (n := 8) htg ku_X8 (htg _ kin_X8)
  obtain ⟨c9, i9, kn9⟩ := u_known (C := RX10) (T := TX10) (N := 15) (n := 15) htg ku_X10 (htg _ kin_X10)
  obtain ⟨c10, i10, kn10⟩ := u_known (C := RX11) (T := TX11) (N := 50) (n := 50) htg ku_X11 (htg _ kin_X11)
  obtain ⟨D, hKc⟩ : ∃ D : va_G, ∀ (k : Nat) (q : vw_C), vwCl[k]? = some q → u_Kn s q.1 q.2.1 q.2.2 (D.1 k) (D.2 k) := by
    refine ⟨(fun k => [c0, c1, c2, c3, c4, c5, c6, c7, c8, c9, c10].getD k c0, fun k => [i0, i1, i2, i3, i4, i5, i6, i7, i8, i9, i10].getD k i0), ?_⟩
    intro k q hq
    match k, hq with
    | 0, hq => cases hq; exact kn0
    | 1, hq => cases hq; exact kn1
    | 2, hq => cases hq; exact kn2
    | 3, hq => cases hq; exact kn3
    | 4, hq => cases hq; exact kn4
    | 5, hq => cases hq; exact kn5
    | 6, hq => cases hq; exact kn6
    | 7, hq => cases hq; exact kn7
    | 8, hq => cases hq; exact kn8
    | 9, hq => cases hq; exact kn9
    | 10, hq => cases hq; exact kn10
    | k + 11, hq => simp [vwCl] at hq
  obtain ⟨t0, kt0, cp0, ta0, tb0, te0⟩ := Cond.arrayClass_spec (htg _ ka_int)
  obtain ⟨t1, kt1, cp1, ta1, tb1, te1⟩ := Cond.arrayClass_spec (htg _ ka_long)
  obtain ⟨t2, kt2, cp2, ta2, tb2, te2⟩ := Cond.arrayClass_spec (htg _ ka_byte)
  obtain ⟨t3, kt3, cp3, ta3, tb3, te3⟩ := Cond.arrayClass_spec (htg _ ka_boolean)
  have hK : va_K D vwCl (kx_tys (t0, t1, t2, t3)) s := ⟨hKc, fun k q hq => by
    match k, hq with
    | 0, hq => cases hq; exact ⟨fun n z => ⟨(fun _ h => by cases h), kt0, tb0, cp0, te0⟩, ta0⟩
    | 1, hq => cases hq; exact ⟨fun n z => ⟨(fun _ h => by cases h), kt1, tb1, cp1, te1⟩, ta1⟩
    | 2, hq => cases hq; exact ⟨fun n z => ⟨(fun _ h => by cases h), kt2, tb2, cp2, te2⟩, ta2⟩
    | 3, hq => cases hq; exact ⟨fun n z => ⟨(fun _ h => by cases h), kt3, tb3, cp3, te3⟩, ta3⟩
    | k + 4, hq => simp at hq⟩
  have hd0 := Drawn.sameBut.refl s.drawn lw_cs
  refine W.base ?_
  have hK1 : va_K D vwCl (kx_tys (t0, t1, t2, t3)) (s.setDrawn s.drawn) := va_K.moved (u := s) (Vm.Alike.refl s.vm) hK
  obtain ⟨E, hE⟩ : ∃ E : KE, E = (p, l, e, room_1, s.setDrawn s.drawn, m, #[Value.ref b], below, meth, c, lw_Z below #[Value.ref b] s, 0, 0) := ⟨_, rfl⟩
  generalize hT : ((t0, t1, t2, t3) : KT) = T at hK1
  have CA : ∀ ce sl, Nat.ble ce 69 = true → Nat.ble sl 11044 = true → kx_C (kE E ce sl) cL_law 4 ret RL 11 502 D T := fun ce sl h1 h2 => by subst hE; exact ⟨hx, hb, hr, hml, hown, dr_words htg _, hK1, hlocks, rfl, rfl, Nat.le_of_ble_eq_true h1, Nat.le_of_ble_eq_true h2⟩
  have hNw : kNw E.2.2.2.2.1 := by subst hE; exact kNw_of (args := #[Value.ref b]) (dr_words hts _)
  have S : kx_S (kE E 69 11044) (fun q : Nat => s.heap.size ≤ q) b L xs := by subst hE; exact ⟨va_X.moved (u := s) (Vm.Alike.refl s.vm) hX, hbl, Nat.not_le.mpr hbl⟩
  have RR : ∀ (w : va_W) (H : Heap) (locs : List Loc) (pc : Nat) (ls : Array Slot), kx_H (kE E 69 11044) D (fun q : Nat => s.heap.size ≤ q) H locs w → decode cL_law pc = .ok (.ireturn, 1) → kx_W (kE E 69 11044) H locs pc ls [.int 1] := by
    subst hE
    intro w H locs pc ls X d
    exact va_forget (fun q hq => X.2.2.1.2.2 q hq) (lw_ret hd0 hx hb hr hlocks d)
  have X : kx_H (kE E 0 0) D (fun q : Nat => s.heap.size ≤ q) s.heap [] [] := by subst hE; exact ⟨fun k q h => by simp at h, ⟨fun i j p q h => by simp at h, fun k q h => by simp at h⟩, va_S.rf, fun q h => h⟩
  obtain ⟨x, hf, hR⟩ := q_init 1048576 (Nat.le_refl _)
  have hl := lv_entry ([.ref b]) (n := 4) (Nat.le_of_ble_eq_true rfl)
  rw [lg_entry_eq]
  generalize (lg_sl ([.ref b]) ++ List.replicate (4 - (lg_sl ([.ref b])).length) Slot.unset).toArray = ls at hl ⊢
  have hl : lv_has ls 4 [(0, .ref b)] := hl
  suffices K : kx_W (kE E 0 0) s.heap [] 0 ls [] by subst hE; exact K
  clear hE
  have C := CA 0 0 rfl rfl
  have C2 := CA 1 15 rfl rfl
  refine x_new 3 C dL_law_0 X kN_L_7 C2 rfl rfl rfl (fun q0 H X => ?_)
  have C := C2
  refine x_dup 4 C dL_law_3 rfl rfl ?_
  have C2 := CA 52 3688 rfl rfl
  refine x_callJ 7 (wr := []) C hNw dL_law_4 X hl kI_L_9 (ci_X10 E.2.1 D T q0) rfl rfl rfl [0] [] rfl rfl rfl rfl (by decide) C2 rfl rfl rfl (fun hx H locs hux X9 => ?_)
  clear X
  subst hux
  have X : kx_H (kE E 52 3688) D (fun q : Nat => s.heap.size ≤ q) H locs (wC T hx 0 0 (fun _ => 0) (fun _ => 0) (fun _ => 0) (fun _ => 0) (fun _ => 0) 0 0 0 0 0 0 0 (fun _ => 0) 0 0 0 0 0 0 0 0 0 0 0 0 0 0 0 (fun _ => 0) (fun _ => 0) 1 1 0 0 0 0 0 0 (fun _ => 0) (fun _ => 0) (fun _ => 0) 0 0 0 0 0 0 0 0 0 0 0 0 0 0 0 (fun _ => 0) (fun _ => 0) 0 0 0 0 0 0 0 (fun _ => 0) (fun _ => 0) 0 0 0 0 0 0 0 (fun _ => 0) 0 0 0 0 0 0 0 0 0 0 0 0 (fun _ => 0)) := X9
  have C := C2
  refine x_astore_n 8 C dL_law_7 [(1, .ref (hx 0)), (0, .ref b)] hl rfl rfl rfl (fun ls hl => ?_)
  have C2 := CA 53 3738 rfl rfl
  refine x_new 11 C dL_law_8 X kN_L_10 C2 rfl rfl rfl (fun q1 H X => ?_)
  have C := C2
  refine x_dup 12 C dL_law_11 rfl rfl ?_
  have C2 := CA 69 11044 rfl rfl
  refine x_callJ 15 (wr := (wC T hx 0 0 (fun _ => 0) (fun _ => 0) (fun _ => 0) (fun _ => 0) (fun _ => 0) 0 0 0 0 0 0 0 (fun _ => 0) 0 0 0 0 0 0 0 0 0 0 0 0 0 0 0 (fun _ => 0) (fun _ => 0) 1 1 0 0 0 0 0 0 (fun _ => 0) (fun _ => 0) (fun _ => 0) 0 0 0 0 0 0 0 0 0 0 0 0 0 0 0 (fun _ => 0) (fun _ => 0) 0 0 0 0 0 0 0 (fun _ => 0) (fun _ => 0) 0 0 0 0 0 0 0 (fun _ => 0) 0 0 0 0 0 0 0 0 0 0 0 0 (fun _ => 0))) C hNw dL_law_12 X hl kI_L_12 (ci_X11 E.2.1 D T q1 1048576 x hf) rfl rfl rfl [52] [0, 1, 2, 3, 4, 5, 6, 7, 8, 9, 10, 11, 12, 13, 14, 15, 16, 17, 18, 19, 20, 21, 22, 23, 24, 25, 26, 27, 28, 29, 30, 31, 32, 33, 34, 35, 36, 37, 38, 39, 40, 41, 42, 43, 44, 45, 46, 47, 48, 49, 50, 51] rfl (by simp only [wC, List.cons_append, List.nil_append, List.map_cons, List.map_nil, List.getElem?_cons_succ, List.getElem?_cons_zero]) (by simp only [wC, List.cons_append, List.nil_append, List.map_cons, List.map_nil, List.getElem?_cons_succ, List.getElem?_cons_zero]) (by decide) (by decide) C2 rfl rfl rfl (fun hm H locs hum X9 => ?_)
  clear X
  subst hum
  have C := C2
  refine x_astore_n 16 C dL_law_15 [(2, .ref (hm 0)), (1, .ref (hx 0)), (0, .ref b)] hl rfl rfl rfl (fun ls hl => ?_)
  refine x_iconst 17 C dL_law_16 (0 : Int32) kvL_0 rfl ?_
  refine x_istore_n 18 C dL_law_17 [(3, .int (0 : Int32)), (2, .ref (hm 0)), (1, .ref (hx 0)), (0, .ref b)] hl rfl rfl rfl (fun ls hl => ?_)
  exact law_loop 1048576 (Nat.le_refl _) C S hL RR 520 0 (by omega) (by omega) 0 0 (fun _ => 0) (fun _ => 0) (fun _ => 0) (fun _ => 0) (fun _ => 0) 0 0 0 0 0 0 0 (fun _ => 0) 0 0 0 0 0 0 0 0 0 0 0 0 0 0 0 (fun _ => 0) (fun _ => 0) 1 1 0 0 0 0 0 0 (fun _ => 0) (fun _ => 0) (fun _ => 0) 0 0 0 0 0 0 0 0 0 0 0 0 0 0 0 (fun _ => 0) (fun _ => 0) 0 0 0 0 0 0 0 (fun _ => 0) (fun _ => 0) 0 0 0 0 0 0 0 (fun _ => 0) 0 0 0 0 0 0 0 0 0 0 0 0 (fun _ => 0) 0 0 x.1 x.2.1 0 0 0 0 0 0 0 0 0 0 0 0 0 0 0 0 0 0 0 0 x.2.2.1 0 0 0 0 0 0 0 0 0 (fun _ => 0) (fun _ => 0) (fun _ => 0) (fun _ => 0) (fun _ => 0) (fun _ => 0) (fun _ => 0) (fun _ => 0) (fun _ => 0) (fun _ => 0) (fun _ => 0) (fun _ => 0) (fun _ => 0) (fun _ => 0) x.2.2.2.1 x.2.2.2.2 hR _ _ _ X9 (lv_sub hl [3, 2, 1, 0] rfl)
-- ===== YOUR PART ENDS =====
set_option maxHeartbeats 4000000 in
theorem lw_walk (l : Launch) (hflags : l.flags = flags0) (b : Addr) (xs : List Int32) : MetFree l x (headSpec (Jvm.Cond.code x code maxLocals ret :: tables_1) room_1) (lw_P b xs) (fun _ _ _ _ _ => True) lw_Q := by
  refine MetFree.of_bodyS (code := code) (maxLocals := maxLocals) (ret := ret) (by decide) ?_ ?_
  · intro args s m h hn
    obtain ⟨meth, c, h1, h2, h3, h4, h5, h6, -, -⟩ := Cond.code_spec hn (atoms_spec (ws := Jvm.Cond.code x code maxLocals ret :: tables_1) h _ List.mem_cons_self)
    exact ⟨meth, c, h1, h2, h3, h4, h5, h6⟩
  · intro p e s m args below meth c s₁ B hml0 hP _
    obtain ⟨rfl, hx, hbd, hgv⟩ := hP
    obtain ⟨scr, harrAt, hlist, hof, hsmall⟩ := hx
    obtain ⟨hcb, hkn, -, -⟩ := State.arrayAt?_spec harrAt
    have hown : s.vm.findClass R_law = some m.cls := findClass_of_methodNamed B.named
    have hts0 : ∀ c ∈ (Jvm.Cond.code x code maxLocals ret :: tables_1), c.before #[Value.ref b] s = true := atoms_spec (ws := Jvm.Cond.code x code maxLocals ret :: tables_1) B.pre
    have hts : ∀ w ∈ lw_tbl, w.before #[Value.ref b] s = true := k2_hts_sels lw_privs (fun w hw => hts0 w (List.mem_cons_of_mem _ hw)) lw_privs_ok
    have hml : c.maxLocals = 4 := B.maxLocals_eq (hts0 _ List.mem_cons_self)
    have X₀ : Stand p l e room_1 s m #[Value.ref b] below meth c s₁ [] 0 0 := Stand.of_body B
    have hh0 : s₁.heap = s.heap := by rw [B.state]; rfl
    have hsz : scr.slots.size = xs.length := by rw [← Array.length_toList, hlist, List.length_map]
    have hval : ∀ j : Nat, j < xs.length → scr.slots[j]? = some (.int (xs.getD j 0)) := fun j hj => by
      rw [← Array.getElem?_toList, hlist]
      simp [hj]
    have hbl : b < s.heap.size := (Array.getElem?_eq_some_iff.mp hcb).1
    have hX : va_X b xs.length (fun j => xs.getD j 0) s s.heap := ⟨scr, hcb, hof, hkn, hsz, hval⟩
    have K : W p l e room_1 s m #[Value.ref b] below meth c s₁.heap [] 0 0 (lw_Z below #[Value.ref b] s) (entryFrame m ([Value.ref b] : List Value).toArray 4) := by
      rw [hh0]
      exact whole_start l hflags hbd ⟨B.exec, B.bytes, B.returns, hml, hown, hts, hX, hbl, B.notSynchronized, hgv⟩
    obtain ⟨t, a1, o, b1, b2, b3⟩ := K s₁ rfl X₀
    exact ⟨t, o, a1, b1, b2, b3⟩
theorem lw_pre_spec {args : Array Value} {s : State} (h : (Jvm.Cond.and given_1 narrow_1).before args s = true) (hr : rest_1_c.before args s = true) : ∃ (b : Addr) (xs : List Int32), lw_P b xs args s := by
  have hs := flat_of_before _ h
  have hq := flat_of_before _ hr
  have hc : (Cond.count 1).before args s = true := hs _ (by decide +kernel)
  have harr : (Cond.arrayOf (.arg 0) .int).before args s = true := hs _ (by decide +kernel)
  have hle : (Cond.le (.length (.arg 0)) (.int 3072)).before args s = true := hs _ (by decide +kernel)
  have hlen : (Cond.isInt (.length (.arg 0))).before args s = true := hq _ (by decide +kernel)
  have hall : (Cond.all (.arg 0) (.isInt (.elem (.arg 0) (.index 0)))).before args s = true := hq _ (by decide +kernel)
  obtain ⟨b, xs, hb, hx⟩ := State.ints_of_pre rfl harr hlen hall
  have hsm : xs.length < 2 ^ 31 := hx.choose_spec.2.2.2
  have hev : (Term.length (.arg 0)).eval args s none [] s = some (.int xs.length.toInt32) := hx.length_eval hb
  have hv := Cond.le_ints hev (show (Term.int 3072).eval args s none [] s = some (.int 3072) from rfl)
  have hd : xs.length.toInt32 ≤ 3072 := by
    simpa [Cond.before, Cond.holds, hv] using hle
  have hN : xs.length ≤ 3072 := (Int32.ofNat_le_ofNat hsm (by decide)).mp (show Int32.ofNat xs.length ≤ Int32.ofNat 3072 from hd)
  exact ⟨b, xs, Cond.one_arg hc (show args[0]? = some (.ref b) from hb), hx, hN, h⟩
theorem lw_comes (l : Launch) (hflags : l.flags = flags0) : Comes l x (Jvm.Cond.code x code maxLocals ret :: tables_1) room_1 (fun tb e args s => Calls_1 tb e args s ∧ rest_1 tb e args s ∧ Pre_1 tb e args s)
    (fun _ _ args s o t => lw_Q args s o t) := by
  intro p e ha hc hk s m args below hf hfit hheap happ hpre
  obtain ⟨b, xs, hP⟩ := lw_pre_spec hpre.2.2 hpre.2.1
  obtain ⟨k, o, h1, h2, h3, hQ⟩ := lw_walk l hflags b xs p e ha hc hk s m args below hf ((Spec.applies_iff_loose hf).mp happ).1 hP trivial
  exact ⟨k, o, h1, h2, h3, hQ⟩
theorem lw_frame {s t : State} {o : Outcome} {args : Array Value} (h : State.butDraws s t lw_cs (fun t1 => Framed s o t1 [] 69 11044)) :
    State.butDraws s t [Jvm.Choice.named "NaN.bits"] (fun t1 => Framed s o t1 (fieldLocs frame_1_writes args s ++ arrayLocs frame_1_arrays args s ++ staticLocs frame_1_statics s) 69 11044) := h
theorem lw_limb (L : Cond) (hL : ∀ (args : Array Value) (s t : State), L.after args s (.returned (some (.int 1))) t = true) :
    ArmFor flags0 classFile x code maxLocals ret World_1 tables_1 room_1 Calls_1 rest_1 Pre_1
      (fun tb e a s o t => postC L tb e a s o t ∧ State.butDraws s t [Jvm.Choice.named "NaN.bits"] (fun t1 => Framed s o t1 (fieldLocs frame_1_writes a s ++ arrayLocs frame_1_arrays a s ++ staticLocs frame_1_statics s) 69 11044)) := by
  intro l hflags _ _ p e ha hc hk s m args below hf hfit hheap happ hpre
  obtain ⟨k, o, h1, h2, h3, rfl, hF⟩ := lw_comes l hflags p e ha hc hk s m args below hf hfit hheap happ hpre
  exact ⟨k, _, h1, h2, h3, hL args s _, lw_frame hF⟩
theorem i_vc : Claimed_1_1 ∧ Claimed_1_2 := ⟨lw_limb limb_1_1 (fun args s t => by simp [limb_1_1, Cond.after, Cond.holds, Cond.value]), lw_limb limb_1_2 (fun args s t => Cond.after_iff.mpr (by
  first | (rw [show limb_1_2 = Cond.eq .result (.int 1) from rfl, Cond.eq_ints (x := 1) (y := 1) rfl rfl]; simp; done) | (simp [limb_1_2, Cond.value, Term.eval]; done)))⟩
