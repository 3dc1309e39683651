/-! ===== the kit of this claim: a method's surroundings as one tuple, its world as a list, its contract out of a pure function ===== -/
/-- the tables' words that hold on along a run -/
def lw_g : List Cond := lw_tbl.filter goodWord
theorem kx_goodIn : GoodIn lw_g lw_g := fun w h => ⟨h, good_of_word (List.mem_filter.mp h).2⟩
theorem kx_in {w : Cond} (h : w ∈ lw_tbl) (hg : goodWord w = true) : w ∈ lw_g := List.mem_filter.mpr ⟨h, hg⟩
theorem kx_t1 {w : Cond} (h : w ∈ tables_1_1) (hg : goodWord w = true) : w ∈ lw_g := kx_in (List.mem_append_right _ (List.mem_append_left _ h)) hg
theorem kx_t2 {w : Cond} (h : w ∈ tables_1_2) (hg : goodWord w = true) : w ∈ lw_g := kx_in (List.mem_append_right _ (List.mem_append_right _ (List.mem_append_left _ h))) hg
theorem kx_t3 {w : Cond} (h : w ∈ tables_1_3) (hg : goodWord w = true) : w ∈ lw_g := kx_in (List.mem_append_right _ (List.mem_append_right _ (List.mem_append_right _ (List.mem_append_left _ h)))) hg
theorem kx_t4 {w : Cond} (h : w ∈ tables_1_4) (hg : goodWord w = true) : w ∈ lw_g := kx_in (List.mem_append_right _ (List.mem_append_right _ (List.mem_append_right _ (List.mem_append_right _ (List.mem_append_left _ h))))) hg
theorem kx_t5 {w : Cond} (h : w ∈ tables_1_5) (hg : goodWord w = true) : w ∈ lw_g := kx_in (List.mem_append_right _ (List.mem_append_right _ (List.mem_append_right _ (List.mem_append_right _ (List.mem_append_right _ (List.mem_append_left _ h)))))) hg
theorem kx_t6 {w : Cond} (h : w ∈ tables_1_6) (hg : goodWord w = true) : w ∈ lw_g := kx_in (List.mem_append_right _ (List.mem_append_right _ (List.mem_append_right _ (List.mem_append_right _ (List.mem_append_right _ (List.mem_append_right _ (List.mem_append_left _ h))))))) hg
theorem kx_t7 {w : Cond} (h : w ∈ tables_1_7) (hg : goodWord w = true) : w ∈ lw_g := kx_in (List.mem_append_right _ (List.mem_append_right _ (List.mem_append_right _ (List.mem_append_right _ (List.mem_append_right _ (List.mem_append_right _ (List.mem_append_right _ h))))))) hg
theorem kx_sel {q : MethodName × Nat} (h : q ∈ lw_privs) : Cond.selects q.1.cls q.1 q.1 ∈ lw_g := kx_in (List.mem_append_left _ (List.mem_map.mpr ⟨q, h, rfl⟩)) rfl
/-- a field's link: class number ci, slot k -/
def kx_F (own : String) (index ci k : Nat) : Prop :=
  ∃ (C : String) (Tb : u_T) (N : Nat), (∀ w ∈ u_ws C Tb N, w ∈ lw_g) ∧ vwCl[ci]? = some (C, Tb, N) ∧ k < N ∧ Cond.fieldLink own index (Tb k).1 (Tb k).2.1 (Tb k).2.2.1 ∈ lw_g
/-- the same for a field that may be written, of type ty -/
def kx_FP (own : String) (index ci k : Nat) (ty : FieldType) : Prop :=
  ∃ (C : String) (Tb : u_T) (N : Nat) (tyf : Nat → FieldType), (∀ w ∈ u_ws C Tb N, w ∈ lw_g) ∧ vwCl[ci]? = some (C, Tb, N) ∧ k < N ∧ Cond.fieldLink own index (Tb k).1 (Tb k).2.1 (Tb k).2.2.1 ∈ lw_g ∧ (∀ k, k < N → parseFieldDescriptor (Tb k).2.2.1 = some (tyf k)) ∧ (∀ a, a < N → ∀ b, b < N → a ≠ b → (Tb a).2.1 ≠ (Tb b).2.1) ∧ (Tb k).2.2.2 = false ∧ parseFieldDescriptor (Tb k).2.2.1 = some ty
/-- a call's link: of an object's method, of a static one -/
def kx_LV (own : String) (index : Nat) (y : MethodName) (cc : ByteArray) (n : Nat) (r : Option FieldType) (np : Nat) : Prop :=
  Cond.methodLink own index y ∈ lw_g ∧ Cond.instanceMethod y ∈ lw_g ∧ Cond.selects y.cls y y ∈ lw_g ∧ Cond.initialized y.cls ∈ lw_g ∧ Cond.code y cc n r ∈ lw_g ∧ (y.cls ≠ "java/lang/invoke/MethodHandle" ∧ y.cls ≠ "java/lang/invoke/VarHandle" ∧ (parseMethodDescriptor y.desc).map (fun d => d.parameters.length) = some np)
def kx_LS (own : String) (index : Nat) (y : MethodName) (cc : ByteArray) (n : Nat) (r : Option FieldType) (np : Nat) : Prop :=
  Cond.methodLink own index y ∈ lw_g ∧ Cond.static y ∈ lw_g ∧ Cond.initialized y.cls ∈ lw_g ∧ Cond.code y cc n r ∈ lw_g ∧ (y.cls ≠ "java/lang/invoke/MethodHandle" ∧ y.cls ≠ "java/lang/invoke/VarHandle" ∧ (parseMethodDescriptor y.desc).map (fun d => d.parameters.length) = some np)
