theorem kx_ug {big ws : List Cond} (ps : List Nat) (hb : ∀ w ∈ big, goodWord w = true → w ∈ lw_g) (hp : ws = ps.filterMap (fun i => big[i]?)) (h : ws.all goodWord = true) : ∀ w ∈ ws, w ∈ lw_g := by
  intro w hw
  have h1 := List.all_eq_true.mp h w hw
  rw [hp] at hw
  obtain ⟨i, -, hi⟩ := List.mem_filterMap.mp hw
  exact hb w (List.mem_of_getElem? hi) h1
theorem ku_X0 : ∀ w ∈ u_ws RX0 TX0 7, w ∈ lw_g := kx_ug (big := tables_1) [37, 39, 41, 43, 45, 47, 49] (fun w h hg => kx_in (List.mem_append_right _ h) hg) (by decide +kernel) (by decide +kernel)
theorem ku_X1 : ∀ w ∈ u_ws RX1 TX1 10, w ∈ lw_g := kx_ug (big := tables_1) [131, 133, 135, 137, 139, 141, 143, 145, 147, 149] (fun w h hg => kx_in (List.mem_append_right _ h) hg) (by decide +kernel) (by decide +kernel)
theorem ku_X2 : ∀ w ∈ u_ws RX2 TX2 10, w ∈ lw_g := kx_ug (big := tables_1) [199, 201, 203, 205, 207, 209, 211, 213, 215, 217] (fun w h hg => kx_in (List.mem_append_right _ h) hg) (by decide +kernel) (by decide +kernel)
theorem ku_X3 : ∀ w ∈ u_ws RX3 TX3 2, w ∈ lw_g := kx_ug (big := tables_1) [274, 276] (fun w h hg => kx_in (List.mem_append_right _ h) hg) (by decide +kernel) (by decide +kernel)
theorem ku_X4 : ∀ w ∈ u_ws RX4 TX4 4, w ∈ lw_g := kx_ug (big := tables_1) [167, 169, 171, 173] (fun w h hg => kx_in (List.mem_append_right _ h) hg) (by decide +kernel) (by decide +kernel)
theorem ku_X5 : ∀ w ∈ u_ws RX5 TX5 2, w ∈ lw_g := kx_ug (big := tables_1) [111, 113] (fun w h hg => kx_in (List.mem_append_right _ h) hg) (by decide +kernel) (by decide +kernel)
theorem ku_X6 : ∀ w ∈ u_ws RX6 TX6 4, w ∈ lw_g := kx_ug (big := tables_1) [233, 235, 237, 239] (fun w h hg => kx_in (List.mem_append_right _ h) hg) (by decide +kernel) (by decide +kernel)
theorem ku_X7 : ∀ w ∈ u_ws RX7 TX7 4, w ∈ lw_g := kx_ug (big := tables_1) [256, 258, 260, 262] (fun w h hg => kx_in (List.mem_append_right _ h) hg) (by decide +kernel) (by decide +kernel)
theorem ku_X8 : ∀ w ∈ u_ws RX8 TX8 8, w ∈ lw_g := kx_ug (big := tables_1) [70, 72, 74, 76, 78, 80, 82, 84] (fun w h hg => kx_in (List.mem_append_right _ h) hg) (by decide +kernel) (by decide +kernel)
theorem ku_X10 : ∀ w ∈ u_ws RX10 TX10 15, w ∈ lw_g := kx_ug (big := tables_1) [296, 298, 300, 302, 304, 306, 308, 310, 312, 314, 316, 318, 320, 322, 324] (fun w h hg => kx_in (List.mem_append_right _ h) hg) (by decide +kernel) (by decide +kernel)
theorem ku_X11 : ∀ w ∈ u_ws RX11 TX11 50, w ∈ lw_g := kx_ug (big := tables_1) [1120, 1122, 1124, 1126, 1128, 1130, 1132, 1134, 1136, 1138, 1140, 1142, 1144, 1146, 1148, 1150, 1152, 1154, 1156, 1158, 1160, 1162, 1164, 1166, 1168, 1170, 1172, 1174, 1176, 1178, 1180, 1182, 1184, 1186, 1188, 1190, 1192, 1194, 1196, 1198, 1200, 1202, 1204, 1206, 1208, 1210, 1212, 1214, 1216, 1218] (fun w h hg => kx_in (List.mem_append_right _ h) hg) (by decide +kernel) (by decide +kernel)
theorem kpn_X0 : plainName RX0 = true := by decide +kernel
theorem kpn_X1 : plainName RX1 = true := by decide +kernel
theorem kpn_X2 : plainName RX2 = true := by decide +kernel
theorem kpn_X3 : plainName RX3 = true := by decide +kernel
theorem kpn_X4 : plainName RX4 = true := by decide +kernel
theorem kpn_X5 : plainName RX5 = true := by decide +kernel
theorem kpn_X6 : plainName RX6 = true := by decide +kernel
theorem kpn_X7 : plainName RX7 = true := by decide +kernel
theorem kpn_X8 : plainName RX8 = true := by decide +kernel
theorem kpn_X9 : plainName RX9 = true := by decide +kernel
theorem kpn_X10 : plainName RX10 = true := by decide +kernel
theorem kpn_X11 : plainName RX11 = true := by decide +kernel
theorem kf_X5_9 : kx_F RX5 9 5 0 := ⟨RX5, TX5, 2, ku_X5, rfl, by decide, (kx_t1 (List.mem_of_getElem? (i := 100) (by decide +kernel)) rfl)⟩
theorem kp_X5_9 : kx_FP RX5 9 5 0 .long := ⟨RX5, TX5, 2, tyX5, ku_X5, rfl, by decide, (kx_t1 (List.mem_of_getElem? (i := 100) (by decide +kernel)) rfl), tyX5_ok, nmX5, rfl, by decide +kernel⟩
theorem kf_X5_15 : kx_F RX5 15 5 1 := ⟨RX5, TX5, 2, ku_X5, rfl, by decide, (kx_t1 (List.mem_of_getElem? (i := 106) (by decide +kernel)) rfl)⟩
theorem kp_X5_15 : kx_FP RX5 15 5 1 .long := ⟨RX5, TX5, 2, tyX5, ku_X5, rfl, by decide, (kx_t1 (List.mem_of_getElem? (i := 106) (by decide +kernel)) rfl), tyX5_ok, nmX5, rfl, by decide +kernel⟩
theorem kl_X5_28 : kx_LS RX5 28 yJ9_floorMod_f86c9 cJ9_floorMod_f86c9 6 (some .long) 2 := ⟨(kx_t2 (List.mem_of_getElem? (i := 189) (by decide +kernel)) rfl), (kx_t2 (List.mem_of_getElem? (i := 190) (by decide +kernel)) rfl), (kx_t1 (List.mem_of_getElem? (i := 12) (by decide +kernel)) rfl), (kx_t2 (List.mem_of_getElem? (i := 191) (by decide +kernel)) rfl), (show yJ9_floorMod_f86c9.cls ≠ "java/lang/invoke/MethodHandle" ∧ yJ9_floorMod_f86c9.cls ≠ "java/lang/invoke/VarHandle" ∧ (parseMethodDescriptor yJ9_floorMod_f86c9.desc).map (fun d => d.parameters.length) = some 2 by decide +kernel)⟩
theorem kl_X5_40 : kx_LV RX5 40 yX5_isNought cX5_isNought 1 (some .boolean) 0 := ⟨(kx_t2 (List.mem_of_getElem? (i := 214) (by decide +kernel)) rfl), (kx_t2 (List.mem_of_getElem? (i := 198) (by decide +kernel)) rfl), (kx_t2 (List.mem_of_getElem? (i := 199) (by decide +kernel)) rfl), (kx_t1 (List.mem_of_getElem? (i := 5) (by decide +kernel)) rfl), (kx_t2 (List.mem_of_getElem? (i := 200) (by decide +kernel)) rfl), (show yX5_isNought.cls ≠ "java/lang/invoke/MethodHandle" ∧ yX5_isNought.cls ≠ "java/lang/invoke/VarHandle" ∧ (parseMethodDescriptor yX5_isNought.desc).map (fun d => d.parameters.length) = some 0 by decide +kernel)⟩
theorem kl_X5_44 : kx_LV RX5 44 yX5_set cX5_set 5 none 2 := ⟨(kx_t2 (List.mem_of_getElem? (i := 215) (by decide +kernel)) rfl), (kx_t2 (List.mem_of_getElem? (i := 142) (by decide +kernel)) rfl), (kx_t2 (List.mem_of_getElem? (i := 143) (by decide +kernel)) rfl), (kx_t1 (List.mem_of_getElem? (i := 5) (by decide +kernel)) rfl), (kx_t2 (List.mem_of_getElem? (i := 144) (by decide +kernel)) rfl), (show yX5_set.cls ≠ "java/lang/invoke/MethodHandle" ∧ yX5_set.cls ≠ "java/lang/invoke/VarHandle" ∧ (parseMethodDescriptor yX5_set.desc).map (fun d => d.parameters.length) = some 2 by decide +kernel)⟩
theorem kl_X5_58 : kx_LV RX5 58 yX5_isOfThree cX5_isOfThree 1 (some .boolean) 0 := ⟨(kx_t2 (List.mem_of_getElem? (i := 213) (by decide +kernel)) rfl), (kx_t2 (List.mem_of_getElem? (i := 181) (by decide +kernel)) rfl), (kx_t2 (List.mem_of_getElem? (i := 182) (by decide +kernel)) rfl), (kx_t1 (List.mem_of_getElem? (i := 5) (by decide +kernel)) rfl), (kx_t2 (List.mem_of_getElem? (i := 183) (by decide +kernel)) rfl), (show yX5_isOfThree.cls ≠ "java/lang/invoke/MethodHandle" ∧ yX5_isOfThree.cls ≠ "java/lang/invoke/VarHandle" ∧ (parseMethodDescriptor yX5_isOfThree.desc).map (fun d => d.parameters.length) = some 0 by decide +kernel)⟩
theorem kc_X5_26 : Cond.constantLong RX5 26 (3) ∈ lw_g := (kx_t2 (List.mem_of_getElem? (i := 184) (by decide +kernel)) rfl)
theorem kc_X5_34 : Cond.constantLong RX5 34 (2) ∈ lw_g := (kx_t2 (List.mem_of_getElem? (i := 192) (by decide +kernel)) rfl)
theorem kv_bipush_60 : (Int8.ofInt (60)).toInt32 = (60 : Int32) := by decide +kernel
theorem kv_iconst_0 : Int32.ofInt (0) = (0 : Int32) := by decide +kernel
theorem kv_iconst_1 : Int32.ofInt (1) = (1 : Int32) := by decide +kernel
theorem kv_lconst_0 : Int64.ofNat ((0 : Fin 2) : Nat) = (0 : Int64) := by decide +kernel
theorem kz_l_3 : ¬ (3 : Int64) = 0 := by decide +kernel
theorem kb_0 : ((0 : Int32) &&& 1) = 0 := by decide
theorem kb_1 : ((1 : Int32) &&& 1) = 1 := by decide
def w_X5_ (T : KT) (h0 : Nat) (m_a m_b : Int64) : va_W := [(h0, .inr (5, [.long m_a, .long m_b]))]
def w_X5_1X5 (T : KT) (h0 h1 : Nat) (m_a m_b m_p1_a m_p1_b : Int64) : va_W := [(h0, .inr (5, [.long m_a, .long m_b])), (h1, .inr (5, [.long m_p1_a, .long m_p1_b]))]
def w__ (T : KT)   : va_W := []
