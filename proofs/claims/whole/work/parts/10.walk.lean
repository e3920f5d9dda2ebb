theorem kyX3_lineUp : yX3_lineUp.cls = RX3 ∧ yX3_lineUp.cls ≠ "java/lang/invoke/MethodHandle" ∧ yX3_lineUp.cls ≠ "java/lang/invoke/VarHandle" ∧ (parseMethodDescriptor yX3_lineUp.desc).map (fun d => d.parameters.length) = some 2 := by decide +kernel
set_option maxHeartbeats 4000000 in
set_option maxRecDepth 100000 in
theorem cX3_lineUp_m (l : Launch) (D : va_G) (aP aW : Nat) (xW_row : Int32) (xW_quiets : Int32) (xW_place : Int32) (xW_turned : Int32) (j1 : Int32) (j2 : Int32) (z : Int32 × Int32 × Int32) (hf : fX3_lineUp j1 j2 xW_row xW_quiets xW_place = some z) : ∀ sz : Nat, Met l yX3_lineUp wsX3_lineUp ({ frames := 0, cells := 0, slots := 0, locals := 0 } : Room) (kPre D [] [oO aW 2 [.ref aP, .int xW_row, .int xW_quiets, .int xW_place, .int xW_turned]] sz [.ref aW, .int j1, .int j2]) (kQv D [] [oO aW 2 [.ref aP, .int xW_row, .int xW_quiets, .int xW_place, .int xW_turned]] sz [oO aW 2 [.ref aP, .int z.1, .int z.2.1, .int z.2.2, .int xW_turned]]) 0 0 (va_A [oO aW 2 [.ref aP, .int xW_row, .int xW_quiets, .int xW_place, .int xW_turned]] sz) := by
  refine kMet_v (own := RX3) z (fun u => [oO aW 2 [.ref aP, .int u.1, .int u.2.1, .int u.2.2, .int xW_turned]]) rfl (by decide) rfl ⟨rfl, rfl⟩ (Nat.le_of_ble_eq_true rfl) ?_
  intro X hXl hXD hC hQ
  subst hXl
  subst hXD
  change kG X 0 [(0, .ref aW), (1, .int j1), (2, .int j2)] [] [oO aW 2 [.ref aP, .int xW_row, .int xW_quiets, .int xW_place, .int xW_turned]]
  have hinX3 : ∀ w ∈ wsX30, w ∈ wsX3_lineUp := fun _ h => List.mem_cons_of_mem _ (List.mem_append_right _ h)
  unfold fX3_lineUp at hf
  refine g_aload_n hC 0 dX3_lineUp_0 rfl rfl ?_
  refine g_iload_n hC 1 dX3_lineUp_1 rfl rfl ?_
  refine g_put (C := RX3) (T := TX3) (N := 5) (ty := .int) (ws' := [oO aW 2 [.ref aP, .int j1, .int xW_quiets, .int xW_place, .int xW_turned]]) hC tyX3_ok nmX3 hinX3 0 1 rfl rfl (by decide) (List.mem_of_getElem? (i := 1) rfl) rfl rfl rfl rfl (Nat.le_of_ble_eq_true rfl) dX3_lineUp_2 rfl ?_
  refine g_aload_n hC 0 dX3_lineUp_5 rfl rfl ?_
  refine g_iconst (v := (0 : Int32)) hC dX3_lineUp_6 ci_0 ?_
  refine g_put (C := RX3) (T := TX3) (N := 5) (ty := .int) (ws' := [oO aW 2 [.ref aP, .int j1, .int (0 : Int32), .int xW_place, .int xW_turned]]) hC tyX3_ok nmX3 hinX3 0 2 rfl rfl (by decide) (List.mem_of_getElem? (i := 2) rfl) rfl rfl rfl rfl (Nat.le_of_ble_eq_true rfl) dX3_lineUp_7 rfl ?_
  refine g_aload_n hC 0 dX3_lineUp_10 rfl rfl ?_
  refine g_iload_n hC 2 dX3_lineUp_11 rfl rfl ?_
  refine g_put (C := RX3) (T := TX3) (N := 5) (ty := .int) (ws' := [oO aW 2 [.ref aP, .int j1, .int (0 : Int32), .int j2, .int xW_turned]]) hC tyX3_ok nmX3 hinX3 0 3 rfl rfl (by decide) (List.mem_of_getElem? (i := 3) rfl) rfl rfl rfl rfl (Nat.le_of_ble_eq_true rfl) dX3_lineUp_12 rfl ?_
  exact hQ (j1, (0 : Int32), j2) _ _ (gd_s hf) dX3_lineUp_15
theorem kyX3_start : yX3_start.cls = RX3 ∧ yX3_start.cls ≠ "java/lang/invoke/MethodHandle" ∧ yX3_start.cls ≠ "java/lang/invoke/VarHandle" ∧ (parseMethodDescriptor yX3_start.desc).map (fun d => d.parameters.length) = some 0 := by decide +kernel
set_option maxHeartbeats 4000000 in
set_option maxRecDepth 100000 in
theorem cX3_start_m (l : Launch) (D : va_G) (aP aW : Nat) (xP_walkers : Int32) (xP_light : Int32) (xP_water : Int32) (xP_nerves : Int32) (xP_kinds : Int32) (xW_row : Int32) (xW_quiets : Int32) (xW_place : Int32) (xW_turned : Int32)  (z : Int32 × Int32 × Int32) (hf : fX3_start xP_walkers xW_row xW_quiets xW_place = some z) : ∀ sz : Nat, Met l yX3_start wsX3_start ({ frames := 2, cells := 0, slots := 0, locals := 45 } : Room) (kPre D [] [oO aP 0 [.int xP_walkers, .int xP_light, .int xP_water, .int xP_nerves, .int xP_kinds], oO aW 2 [.ref aP, .int xW_row, .int xW_quiets, .int xW_place, .int xW_turned]] sz [.ref aW]) (kQv D [] [oO aP 0 [.int xP_walkers, .int xP_light, .int xP_water, .int xP_nerves, .int xP_kinds], oO aW 2 [.ref aP, .int xW_row, .int xW_quiets, .int xW_place, .int xW_turned]] sz [oO aP 0 [.int xP_walkers, .int xP_light, .int xP_water, .int xP_nerves, .int xP_kinds], oO aW 2 [.ref aP, .int z.1, .int z.2.1, .int z.2.2, .int xW_turned]]) 0 0 (va_A [oO aP 0 [.int xP_walkers, .int xP_light, .int xP_water, .int xP_nerves, .int xP_kinds], oO aW 2 [.ref aP, .int xW_row, .int xW_quiets, .int xW_place, .int xW_turned]] sz) := by
  refine kMet_v (own := RX3) z (fun u => [oO aP 0 [.int xP_walkers, .int xP_light, .int xP_water, .int xP_nerves, .int xP_kinds], oO aW 2 [.ref aP, .int u.1, .int u.2.1, .int u.2.2, .int xW_turned]]) rfl (by decide) rfl ⟨rfl, rfl⟩ (Nat.le_of_ble_eq_true rfl) ?_
  intro X hXl hXD hC hQ
  subst hXl
  subst hXD
  change kG X 0 [(0, .ref aW)] [] [oO aP 0 [.int xP_walkers, .int xP_light, .int xP_water, .int xP_nerves, .int xP_kinds], oO aW 2 [.ref aP, .int xW_row, .int xW_quiets, .int xW_place, .int xW_turned]]
  have hinX3 : ∀ w ∈ wsX30, w ∈ wsX3_start := fun _ h => List.mem_cons_of_mem _ (List.mem_append_left _ (List.mem_append_right _ h))
  unfold fX3_start at hf
  refine g_aload_n hC 0 dX3_start_0 rfl rfl ?_
  refine g_aload_n hC 0 dX3_start_1 rfl rfl ?_
  refine g_get (C := RX3) (T := TX3) (N := 5) (v := .ref aP) hC hinX3 1 0 rfl rfl (by decide) (List.mem_of_getElem? (i := 1) rfl) rfl dX3_start_2 ?_
  obtain ⟨z5, hz5, hf⟩ := gd_b hf
  refine g_callVi (wr := [oO aW 2 [.ref aP, .int xW_row, .int xW_quiets, .int xW_place, .int xW_turned]]) (wn := [oO aP 0 [.int xP_walkers, .int xP_light, .int xP_water, .int xP_nerves, .int xP_kinds], oO aW 2 [.ref aP, .int xW_row, .int xW_quiets, .int xW_place, .int xW_turned]]) hC [] (cX1_everybody_m (kl X) (kD X) aP xP_walkers xP_light xP_water xP_nerves xP_kinds z5 hz5) gX3_start_X1_everybody rfl kyX1_everybody rfl rfl rfl (q0 := 0) rfl [0] [1] [] [1, 0] rfl rfl rfl rfl (by decide) rfl rfl rfl ⟨rfl, rfl⟩ ⟨Nat.le_of_ble_eq_true rfl, Nat.le_of_ble_eq_true rfl⟩ (Nat.le_of_ble_eq_true rfl) rfl dX3_start_5 ?_
  obtain ⟨z8, hz8, hf⟩ := gd_b hf
  refine g_callSi (wr := [oO aP 0 [.int xP_walkers, .int xP_light, .int xP_water, .int xP_nerves, .int xP_kinds], oO aW 2 [.ref aP, .int xW_row, .int xW_quiets, .int xW_place, .int xW_turned]]) (wn := [oO aP 0 [.int xP_walkers, .int xP_light, .int xP_water, .int xP_nerves, .int xP_kinds], oO aW 2 [.ref aP, .int xW_row, .int xW_quiets, .int xW_place, .int xW_turned]]) hC [.int z5] (cX0_ascending_m (kl X) (kD X) z5 z8 hz8) gX3_start_X0_ascending rfl kyX0_ascending rfl [] [0, 1] [] [0, 1] rfl rfl rfl rfl (by decide) rfl rfl rfl ⟨rfl, rfl⟩ ⟨Nat.le_of_ble_eq_true rfl, Nat.le_of_ble_eq_true rfl⟩ (Nat.le_of_ble_eq_true rfl) rfl dX3_start_8 ?_
  refine g_iconst (v := (0 : Int32)) hC dX3_start_11 ci_0 ?_
  obtain ⟨z12, hz12, hf⟩ := gd_b hf
  refine g_callVv (wr := [oO aP 0 [.int xP_walkers, .int xP_light, .int xP_water, .int xP_nerves, .int xP_kinds]]) (wn := [oO aP 0 [.int xP_walkers, .int xP_light, .int xP_water, .int xP_nerves, .int xP_kinds], oO aW 2 [.ref aP, .int z12.1, .int z12.2.1, .int z12.2.2, .int xW_turned]]) hC [.int z8, .int (0 : Int32)] (cX3_lineUp_m (kl X) (kD X) aP aW xW_row xW_quiets xW_place xW_turned z8 (0 : Int32) z12 hz12) gX3_start_X3_lineUp rfl kyX3_lineUp rfl rfl rfl (q0 := 0) rfl [1] [0] [] [0, 1] rfl rfl rfl rfl (by decide) rfl rfl rfl ⟨rfl, rfl⟩ ⟨Nat.le_of_ble_eq_true rfl, Nat.le_of_ble_eq_true rfl⟩ (Nat.le_of_ble_eq_true rfl) rfl dX3_start_12 ?_
  exact hQ (z12.1, z12.2.1, z12.2.2) _ _ (gd_s hf) dX3_start_15
theorem kyX3_place : yX3_place.cls = RX3 ∧ yX3_place.cls ≠ "java/lang/invoke/MethodHandle" ∧ yX3_place.cls ≠ "java/lang/invoke/VarHandle" ∧ (parseMethodDescriptor yX3_place.desc).map (fun d => d.parameters.length) = some 0 := by decide +kernel
set_option maxHeartbeats 4000000 in
set_option maxRecDepth 100000 in
theorem cX3_place_m (l : Launch) (D : va_G) (aP aW : Nat) (xW_row : Int32) (xW_quiets : Int32) (xW_place : Int32) (xW_turned : Int32)  (z : Int32) (hf : fX3_place xW_place = some z) : ∀ sz : Nat, Met l yX3_place wsX3_place ({ frames := 0, cells := 0, slots := 0, locals := 0 } : Room) (kPre D [] [oO aW 2 [.ref aP, .int xW_row, .int xW_quiets, .int xW_place, .int xW_turned]] sz [.ref aW]) (kQi D [] [oO aW 2 [.ref aP, .int xW_row, .int xW_quiets, .int xW_place, .int xW_turned]] sz [oO aW 2 [.ref aP, .int xW_row, .int xW_quiets, .int xW_place, .int xW_turned]] z) 0 0 (va_A [oO aW 2 [.ref aP, .int xW_row, .int xW_quiets, .int xW_place, .int xW_turned]] sz) := by
  refine kMet_i (own := RX3) z (fun u => u) (fun u => [oO aW 2 [.ref aP, .int xW_row, .int xW_quiets, .int xW_place, .int xW_turned]]) rfl (by decide) rfl ⟨rfl, rfl⟩ (Nat.le_of_ble_eq_true rfl) ?_
  intro X hXl hXD hC hQ
  subst hXl
  subst hXD
  change kG X 0 [(0, .ref aW)] [] [oO aW 2 [.ref aP, .int xW_row, .int xW_quiets, .int xW_place, .int xW_turned]]
  have hinX3 : ∀ w ∈ wsX30, w ∈ wsX3_place := fun _ h => List.mem_cons_of_mem _ (List.mem_append_right _ h)
  unfold fX3_place at hf
  refine g_aload_n hC 0 dX3_place_0 rfl rfl ?_
  refine g_get (C := RX3) (T := TX3) (N := 5) (v := .int xW_place) hC hinX3 0 3 rfl rfl (by decide) (List.mem_of_getElem? (i := 1) rfl) rfl dX3_place_1 ?_
  exact hQ (xW_place) _ _ (gd_s hf) dX3_place_4
theorem kyX3_members : yX3_members.cls = RX3 ∧ yX3_members.cls ≠ "java/lang/invoke/MethodHandle" ∧ yX3_members.cls ≠ "java/lang/invoke/VarHandle" ∧ (parseMethodDescriptor yX3_members.desc).map (fun d => d.parameters.length) = some 0 := by decide +kernel
set_option maxHeartbeats 4000000 in
set_option maxRecDepth 100000 in
theorem cX3_members_m (l : Launch) (D : va_G) (aP aW : Nat) (xW_row : Int32) (xW_quiets : Int32) (xW_place : Int32) (xW_turned : Int32)  (z : Int32) (hf : fX3_members xW_row = some z) : ∀ sz : Nat, Met l yX3_members wsX3_members ({ frames := 3, cells := 0, slots := 0, locals := 64 } : Room) (kPre D [] [oO aW 2 [.ref aP, .int xW_row, .int xW_quiets, .int xW_place, .int xW_turned]] sz [.ref aW]) (kQi D [] [oO aW 2 [.ref aP, .int xW_row, .int xW_quiets, .int xW_place, .int xW_turned]] sz [oO aW 2 [.ref aP, .int xW_row, .int xW_quiets, .int xW_place, .int xW_turned]] z) 0 0 (va_A [oO aW 2 [.ref aP, .int xW_row, .int xW_quiets, .int xW_place, .int xW_turned]] sz) := by
  refine kMet_i (own := RX3) z (fun u => u) (fun u => [oO aW 2 [.ref aP, .int xW_row, .int xW_quiets, .int xW_place, .int xW_turned]]) rfl (by decide) rfl ⟨rfl, rfl⟩ (Nat.le_of_ble_eq_true rfl) ?_
  intro X hXl hXD hC hQ
  subst hXl
  subst hXD
  change kG X 0 [(0, .ref aW)] [] [oO aW 2 [.ref aP, .int xW_row, .int xW_quiets, .int xW_place, .int xW_turned]]
  have hinX3 : ∀ w ∈ wsX30, w ∈ wsX3_members := fun _ h => List.mem_cons_of_mem _ (List.mem_append_right _ h)
  unfold fX3_members at hf
  refine g_aload_n hC 0 dX3_members_0 rfl rfl ?_
  refine g_get (C := RX3) (T := TX3) (N := 5) (v := .int xW_row) hC hinX3 0 1 rfl rfl (by decide) (List.mem_of_getElem? (i := 1) rfl) rfl dX3_members_1 ?_
  obtain ⟨z4, hz4, hf⟩ := gd_b hf
  refine g_callSi (wr := [oO aW 2 [.ref aP, .int xW_row, .int xW_quiets, .int xW_place, .int xW_turned]]) (wn := [oO aW 2 [.ref aP, .int xW_row, .int xW_quiets, .int xW_place, .int xW_turned]]) hC [.int xW_row] (cX0_members_m (kl X) (kD X) xW_row z4 hz4) gX3_members_X0_members rfl kyX0_members rfl [] [0] [] [0] rfl rfl rfl rfl (by decide) rfl rfl rfl ⟨rfl, rfl⟩ ⟨Nat.le_of_ble_eq_true rfl, Nat.le_of_ble_eq_true rfl⟩ (Nat.le_of_ble_eq_true rfl) rfl dX3_members_4 ?_
  exact hQ (z4) _ _ (gd_s hf) dX3_members_7
theorem kyX3_row : yX3_row.cls = RX3 ∧ yX3_row.cls ≠ "java/lang/invoke/MethodHandle" ∧ yX3_row.cls ≠ "java/lang/invoke/VarHandle" ∧ (parseMethodDescriptor yX3_row.desc).map (fun d => d.parameters.length) = some 0 := by decide +kernel
set_option maxHeartbeats 4000000 in
set_option maxRecDepth 100000 in
theorem cX3_row_m (l : Launch) (D : va_G) (aP aW : Nat) (xW_row : Int32) (xW_quiets : Int32) (xW_place : Int32) (xW_turned : Int32)  (z : Int32) (hf : fX3_row xW_row = some z) : ∀ sz : Nat, Met l yX3_row wsX3_row ({ frames := 0, cells := 0, slots := 0, locals := 0 } : Room) (kPre D [] [oO aW 2 [.ref aP, .int xW_row, .int xW_quiets, .int xW_place, .int xW_turned]] sz [.ref aW]) (kQi D [] [oO aW 2 [.ref aP, .int xW_row, .int xW_quiets, .int xW_place, .int xW_turned]] sz [oO aW 2 [.ref aP, .int xW_row, .int xW_quiets, .int xW_place, .int xW_turned]] z) 0 0 (va_A [oO aW 2 [.ref aP, .int xW_row, .int xW_quiets, .int xW_place, .int xW_turned]] sz) := by
  refine kMet_i (own := RX3) z (fun u => u) (fun u => [oO aW 2 [.ref aP, .int xW_row, .int xW_quiets, .int xW_place, .int xW_turned]]) rfl (by decide) rfl ⟨rfl, rfl⟩ (Nat.le_of_ble_eq_true rfl) ?_
  intro X hXl hXD hC hQ
  subst hXl
  subst hXD
  change kG X 0 [(0, .ref aW)] [] [oO aW 2 [.ref aP, .int xW_row, .int xW_quiets, .int xW_place, .int xW_turned]]
  have hinX3 : ∀ w ∈ wsX30, w ∈ wsX3_row := fun _ h => List.mem_cons_of_mem _ (List.mem_append_right _ h)
  unfold fX3_row at hf
  refine g_aload_n hC 0 dX3_row_0 rfl rfl ?_
  refine g_get (C := RX3) (T := TX3) (N := 5) (v := .int xW_row) hC hinX3 0 1 rfl rfl (by decide) (List.mem_of_getElem? (i := 1) rfl) rfl dX3_row_1 ?_
  exact hQ (xW_row) _ _ (gd_s hf) dX3_row_4
theorem kyX3_isOut : yX3_isOut.cls = RX3 ∧ yX3_isOut.cls ≠ "java/lang/invoke/MethodHandle" ∧ yX3_isOut.cls ≠ "java/lang/invoke/VarHandle" ∧ (parseMethodDescriptor yX3_isOut.desc).map (fun d => d.parameters.length) = some 0 := by decide +kernel
set_option maxHeartbeats 4000000 in
set_option maxRecDepth 100000 in
theorem cX3_isOut_m (l : Launch) (D : va_G) (aP aW : Nat) (xP_walkers : Int32) (xP_light : Int32) (xP_water : Int32) (xP_nerves : Int32) (xP_kinds : Int32) (xW_row : Int32) (xW_quiets : Int32) (xW_place : Int32) (xW_turned : Int32)  (z : Int32) (hf : fX3_isOut xP_light xW_place = some z) : ∀ sz : Nat, Met l yX3_isOut wsX3_isOut ({ frames := 1, cells := 0, slots := 0, locals := 20 } : Room) (kPre D [] [oO aP 0 [.int xP_walkers, .int xP_light, .int xP_water, .int xP_nerves, .int xP_kinds], oO aW 2 [.ref aP, .int xW_row, .int xW_quiets, .int xW_place, .int xW_turned]] sz [.ref aW]) (kQi D [] [oO aP 0 [.int xP_walkers, .int xP_light, .int xP_water, .int xP_nerves, .int xP_kinds], oO aW 2 [.ref aP, .int xW_row, .int xW_quiets, .int xW_place, .int xW_turned]] sz [oO aP 0 [.int xP_walkers, .int xP_light, .int xP_water, .int xP_nerves, .int xP_kinds], oO aW 2 [.ref aP, .int xW_row, .int xW_quiets, .int xW_place, .int xW_turned]] z) 0 0 (va_A [oO aP 0 [.int xP_walkers, .int xP_light, .int xP_water, .int xP_nerves, .int xP_kinds], oO aW 2 [.ref aP, .int xW_row, .int xW_quiets, .int xW_place, .int xW_turned]] sz) := by
  refine kMet_z (own := RX3) z (fun u => u) (fun u => [oO aP 0 [.int xP_walkers, .int xP_light, .int xP_water, .int xP_nerves, .int xP_kinds], oO aW 2 [.ref aP, .int xW_row, .int xW_quiets, .int xW_place, .int xW_turned]]) rfl (by decide) rfl ⟨rfl, rfl⟩ (Nat.le_of_ble_eq_true rfl) ?_
  intro X hXl hXD hC hQ
  subst hXl
  subst hXD
  change kG X 0 [(0, .ref aW)] [] [oO aP 0 [.int xP_walkers, .int xP_light, .int xP_water, .int xP_nerves, .int xP_kinds], oO aW 2 [.ref aP, .int xW_row, .int xW_quiets, .int xW_place, .int xW_turned]]
  have hinX3 : ∀ w ∈ wsX30, w ∈ wsX3_isOut := fun _ h => List.mem_cons_of_mem _ (List.mem_append_left _ (List.mem_append_right _ h))
  unfold fX3_isOut at hf
  refine g_aload_n hC 0 dX3_isOut_0 rfl rfl ?_
  refine g_get (C := RX3) (T := TX3) (N := 5) (v := .int xW_place) hC hinX3 1 3 rfl rfl (by decide) (List.mem_of_getElem? (i := 1) rfl) rfl dX3_isOut_1 ?_
  refine g_aload_n hC 0 dX3_isOut_4 rfl rfl ?_
  refine g_get (C := RX3) (T := TX3) (N := 5) (v := .ref aP) hC hinX3 1 0 rfl rfl (by decide) (List.mem_of_getElem? (i := 2) rfl) rfl dX3_isOut_5 ?_
  obtain ⟨z8, hz8, hf⟩ := gd_b hf
  refine g_callVi (wr := [oO aW 2 [.ref aP, .int xW_row, .int xW_quiets, .int xW_place, .int xW_turned]]) (wn := [oO aP 0 [.int xP_walkers, .int xP_light, .int xP_water, .int xP_nerves, .int xP_kinds], oO aW 2 [.ref aP, .int xW_row, .int xW_quiets, .int xW_place, .int xW_turned]]) hC [] (cX1_light_m (kl X) (kD X) aP xP_walkers xP_light xP_water xP_nerves xP_kinds z8 hz8) gX3_isOut_X1_light rfl kyX1_light rfl rfl rfl (q0 := 0) rfl [0] [1] [] [1, 0] rfl rfl rfl rfl (by decide) rfl rfl rfl ⟨rfl, rfl⟩ ⟨Nat.le_of_ble_eq_true rfl, Nat.le_of_ble_eq_true rfl⟩ (Nat.le_of_ble_eq_true rfl) rfl dX3_isOut_8 ?_
  refine g_icmp_lt (tgt := 18) hC dX3_isOut_11 (by decide) (fun hc => ?_) (fun hc => ?_)
  · replace hf := gd_t hc hf
    refine g_iconst (v := (0 : Int32)) hC dX3_isOut_18 ci_0 ?_
    exact hQ ((0 : Int32)) _ _ (gd_s hf) (nz_of (Or.inl rfl)) dX3_isOut_19
  · replace hf := gd_f hc hf
    refine g_iconst (v := (1 : Int32)) hC dX3_isOut_14 ci_1 ?_
    refine g_goto (tgt := 19) hC dX3_isOut_15 (by decide) ?_
    exact hQ ((1 : Int32)) _ _ (gd_s hf) (nz_of (Or.inr rfl)) dX3_isOut_19
theorem kyX3_quiet : yX3_quiet.cls = RX3 ∧ yX3_quiet.cls ≠ "java/lang/invoke/MethodHandle" ∧ yX3_quiet.cls ≠ "java/lang/invoke/VarHandle" ∧ (parseMethodDescriptor yX3_quiet.desc).map (fun d => d.parameters.length) = some 1 := by decide +kernel
set_option maxHeartbeats 4000000 in
set_option maxRecDepth 100000 in
theorem cX3_quiet_m (l : Launch) (D : va_G) (aP aW : Nat) (xW_row : Int32) (xW_quiets : Int32) (xW_place : Int32) (xW_turned : Int32) (j1 : Int32) (z : Int32) (hf : fX3_quiet j1 xW_quiets = some z) : ∀ sz : Nat, Met l yX3_quiet wsX3_quiet ({ frames := 1, cells := 0, slots := 0, locals := 21 } : Room) (kPre D [] [oO aW 2 [.ref aP, .int xW_row, .int xW_quiets, .int xW_place, .int xW_turned]] sz [.ref aW, .int j1]) (kQi D [] [oO aW 2 [.ref aP, .int xW_row, .int xW_quiets, .int xW_place, .int xW_turned]] sz [oO aW 2 [.ref aP, .int xW_row, .int xW_quiets, .int xW_place, .int xW_turned]] z) 0 0 (va_A [oO aW 2 [.ref aP, .int xW_row, .int xW_quiets, .int xW_place, .int xW_turned]] sz) := by
  refine kMet_i (own := RX3) z (fun u => u) (fun u => [oO aW 2 [.ref aP, .int xW_row, .int xW_quiets, .int xW_place, .int xW_turned]]) rfl (by decide) rfl ⟨rfl, rfl⟩ (Nat.le_of_ble_eq_true rfl) ?_
  intro X hXl hXD hC hQ
  subst hXl
  subst hXD
  change kG X 0 [(0, .ref aW), (1, .int j1)] [] [oO aW 2 [.ref aP, .int xW_row, .int xW_quiets, .int xW_place, .int xW_turned]]
  have hinX3 : ∀ w ∈ wsX30, w ∈ wsX3_quiet := fun _ h => List.mem_cons_of_mem _ (List.mem_append_right _ h)
  unfold fX3_quiet at hf
  refine g_aload_n hC 0 dX3_quiet_0 rfl rfl ?_
  refine g_get (C := RX3) (T := TX3) (N := 5) (v := .int xW_quiets) hC hinX3 0 2 rfl rfl (by decide) (List.mem_of_getElem? (i := 1) rfl) rfl dX3_quiet_1 ?_
  refine g_iload_n hC 1 dX3_quiet_4 rfl rfl ?_
  obtain ⟨z5, hz5, hf⟩ := gd_b hf
  refine g_callSi (wr := [oO aW 2 [.ref aP, .int xW_row, .int xW_quiets, .int xW_place, .int xW_turned]]) (wn := [oO aW 2 [.ref aP, .int xW_row, .int xW_quiets, .int xW_place, .int xW_turned]]) hC [.int xW_quiets, .int j1] (cX0_at_m (kl X) (kD X) xW_quiets j1 z5 hz5) gX3_quiet_X0_at rfl kyX0_at rfl [] [0] [] [0] rfl rfl rfl rfl (by decide) rfl rfl rfl ⟨rfl, rfl⟩ ⟨Nat.le_of_ble_eq_true rfl, Nat.le_of_ble_eq_true rfl⟩ (Nat.le_of_ble_eq_true rfl) rfl dX3_quiet_5 ?_
  exact hQ (z5) _ _ (gd_s hf) dX3_quiet_8
theorem kyX3_size : yX3_size.cls = RX3 ∧ yX3_size.cls ≠ "java/lang/invoke/MethodHandle" ∧ yX3_size.cls ≠ "java/lang/invoke/VarHandle" ∧ (parseMethodDescriptor yX3_size.desc).map (fun d => d.parameters.length) = some 0 := by decide +kernel
set_option maxHeartbeats 4000000 in
set_option maxRecDepth 100000 in
theorem cX3_size_m (l : Launch) (D : va_G) (aP aW : Nat) (xW_row : Int32) (xW_quiets : Int32) (xW_place : Int32) (xW_turned : Int32)  (z : Int32) (hf : fX3_size xW_row = some z) : ∀ sz : Nat, Met l yX3_size wsX3_size ({ frames := 2, cells := 0, slots := 0, locals := 42 } : Room) (kPre D [] [oO aW 2 [.ref aP, .int xW_row, .int xW_quiets, .int xW_place, .int xW_turned]] sz [.ref aW]) (kQi D [] [oO aW 2 [.ref aP, .int xW_row, .int xW_quiets, .int xW_place, .int xW_turned]] sz [oO aW 2 [.ref aP, .int xW_row, .int xW_quiets, .int xW_place, .int xW_turned]] z) 0 0 (va_A [oO aW 2 [.ref aP, .int xW_row, .int xW_quiets, .int xW_place, .int xW_turned]] sz) := by
  refine kMet_i (own := RX3) z (fun u => u) (fun u => [oO aW 2 [.ref aP, .int xW_row, .int xW_quiets, .int xW_place, .int xW_turned]]) rfl (by decide) rfl ⟨rfl, rfl⟩ (Nat.le_of_ble_eq_true rfl) ?_
  intro X hXl hXD hC hQ
  subst hXl
  subst hXD
  change kG X 0 [(0, .ref aW)] [] [oO aW 2 [.ref aP, .int xW_row, .int xW_quiets, .int xW_place, .int xW_turned]]
  have hinX3 : ∀ w ∈ wsX30, w ∈ wsX3_size := fun _ h => List.mem_cons_of_mem _ (List.mem_append_right _ h)
  unfold fX3_size at hf
  refine g_aload_n hC 0 dX3_size_0 rfl rfl ?_
  refine g_get (C := RX3) (T := TX3) (N := 5) (v := .int xW_row) hC hinX3 0 1 rfl rfl (by decide) (List.mem_of_getElem? (i := 1) rfl) rfl dX3_size_1 ?_
  obtain ⟨z4, hz4, hf⟩ := gd_b hf
  refine g_callSi (wr := [oO aW 2 [.ref aP, .int xW_row, .int xW_quiets, .int xW_place, .int xW_turned]]) (wn := [oO aW 2 [.ref aP, .int xW_row, .int xW_quiets, .int xW_place, .int xW_turned]]) hC [.int xW_row] (cX0_size_m (kl X) (kD X) xW_row z4 hz4) gX3_size_X0_size rfl kyX0_size rfl [] [0] [] [0] rfl rfl rfl rfl (by decide) rfl rfl rfl ⟨rfl, rfl⟩ ⟨Nat.le_of_ble_eq_true rfl, Nat.le_of_ble_eq_true rfl⟩ (Nat.le_of_ble_eq_true rfl) rfl dX3_size_4 ?_
  exact hQ (z4) _ _ (gd_s hf) dX3_size_7
theorem kyX3_walkerAt : yX3_walkerAt.cls = RX3 ∧ yX3_walkerAt.cls ≠ "java/lang/invoke/MethodHandle" ∧ yX3_walkerAt.cls ≠ "java/lang/invoke/VarHandle" ∧ (parseMethodDescriptor yX3_walkerAt.desc).map (fun d => d.parameters.length) = some 1 := by decide +kernel
set_option maxHeartbeats 4000000 in
set_option maxRecDepth 100000 in
theorem cX3_walkerAt_m (l : Launch) (D : va_G) (aP aW : Nat) (xW_row : Int32) (xW_quiets : Int32) (xW_place : Int32) (xW_turned : Int32) (j1 : Int32) (z : Int32) (hf : fX3_walkerAt j1 xW_row = some z) : ∀ sz : Nat, Met l yX3_walkerAt wsX3_walkerAt ({ frames := 1, cells := 0, slots := 0, locals := 21 } : Room) (kPre D [] [oO aW 2 [.ref aP, .int xW_row, .int xW_quiets, .int xW_place, .int xW_turned]] sz [.ref aW, .int j1]) (kQi D [] [oO aW 2 [.ref aP, .int xW_row, .int xW_quiets, .int xW_place, .int xW_turned]] sz [oO aW 2 [.ref aP, .int xW_row, .int xW_quiets, .int xW_place, .int xW_turned]] z) 0 0 (va_A [oO aW 2 [.ref aP, .int xW_row, .int xW_quiets, .int xW_place, .int xW_turned]] sz) := by
  refine kMet_i (own := RX3) z (fun u => u) (fun u => [oO aW 2 [.ref aP, .int xW_row, .int xW_quiets, .int xW_place, .int xW_turned]]) rfl (by decide) rfl ⟨rfl, rfl⟩ (Nat.le_of_ble_eq_true rfl) ?_
  intro X hXl hXD hC hQ
  subst hXl
  subst hXD
  change kG X 0 [(0, .ref aW), (1, .int j1)] [] [oO aW 2 [.ref aP, .int xW_row, .int xW_quiets, .int xW_place, .int xW_turned]]
  have hinX3 : ∀ w ∈ wsX30, w ∈ wsX3_walkerAt := fun _ h => List.mem_cons_of_mem _ (List.mem_append_right _ h)
  unfold fX3_walkerAt at hf
  refine g_aload_n hC 0 dX3_walkerAt_0 rfl rfl ?_
  refine g_get (C := RX3) (T := TX3) (N := 5) (v := .int xW_row) hC hinX3 0 1 rfl rfl (by decide) (List.mem_of_getElem? (i := 1) rfl) rfl dX3_walkerAt_1 ?_
  refine g_iload_n hC 1 dX3_walkerAt_4 rfl rfl ?_
  obtain ⟨z5, hz5, hf⟩ := gd_b hf
  refine g_callSi (wr := [oO aW 2 [.ref aP, .int xW_row, .int xW_quiets, .int xW_place, .int xW_turned]]) (wn := [oO aW 2 [.ref aP, .int xW_row, .int xW_quiets, .int xW_place, .int xW_turned]]) hC [.int xW_row, .int j1] (cX0_at_m (kl X) (kD X) xW_row j1 z5 hz5) gX3_walkerAt_X0_at rfl kyX0_at rfl [] [0] [] [0] rfl rfl rfl rfl (by decide) rfl rfl rfl ⟨rfl, rfl⟩ ⟨Nat.le_of_ble_eq_true rfl, Nat.le_of_ble_eq_true rfl⟩ (Nat.le_of_ble_eq_true rfl) rfl dX3_walkerAt_5 ?_
  refine g_iconst (v := (1 : Int32)) hC dX3_walkerAt_8 ci_1 ?_
  refine g_isub hC dX3_walkerAt_9 ?_
  exact hQ ((z5 - (1 : Int32))) _ _ (gd_s hf) dX3_walkerAt_10
theorem kyX3_indexOf : yX3_indexOf.cls = RX3 ∧ yX3_indexOf.cls ≠ "java/lang/invoke/MethodHandle" ∧ yX3_indexOf.cls ≠ "java/lang/invoke/VarHandle" ∧ (parseMethodDescriptor yX3_indexOf.desc).map (fun d => d.parameters.length) = some 1 := by decide +kernel
set_option maxHeartbeats 4000000 in
set_option maxRecDepth 100000 in
theorem cX3_indexOf_m (l : Launch) (D : va_G) (aP aW : Nat) (xW_row : Int32) (xW_quiets : Int32) (xW_place : Int32) (xW_turned : Int32) (j1 : Int32) (z : Int32) (hf : fX3_indexOf j1 xW_row = some z) : ∀ sz : Nat, Met l yX3_indexOf wsX3_indexOf ({ frames := 3, cells := 0, slots := 0, locals := 62 } : Room) (kPre D [] [oO aW 2 [.ref aP, .int xW_row, .int xW_quiets, .int xW_place, .int xW_turned]] sz [.ref aW, .int j1]) (kQi D [] [oO aW 2 [.ref aP, .int xW_row, .int xW_quiets, .int xW_place, .int xW_turned]] sz [oO aW 2 [.ref aP, .int xW_row, .int xW_quiets, .int xW_place, .int xW_turned]] z) 0 0 (va_A [oO aW 2 [.ref aP, .int xW_row, .int xW_quiets, .int xW_place, .int xW_turned]] sz) := by
  refine kMet_i (own := RX3) z (fun u => u) (fun u => [oO aW 2 [.ref aP, .int xW_row, .int xW_quiets, .int xW_place, .int xW_turned]]) rfl (by decide) rfl ⟨rfl, rfl⟩ (Nat.le_of_ble_eq_true rfl) ?_
  intro X hXl hXD hC hQ
  subst hXl
  subst hXD
  change kG X 0 [(0, .ref aW), (1, .int j1)] [] [oO aW 2 [.ref aP, .int xW_row, .int xW_quiets, .int xW_place, .int xW_turned]]
  have t2 : ∀  (n : Nat) (j1 : Int32) (j2 : Int32), lp (fun _ _ => none) (fX3_indexOf_b2_S xW_row ) n j1 j2 = some z → kG X 2 [(0, .ref aW), (1, .int j1), (2, .int j2)] [] [oO aW 2 [.ref aP, .int xW_row, .int xW_quiets, .int xW_place, .int xW_turned]] := by
    intro  n
    induction n with
    | zero => intro j1 j2 hf; cases hf
    | succ n hk2 =>
      intro j1 j2 hf
      rw [lp_s] at hf
      revert hf hk2
      generalize lp (fun _ _ => none) (fX3_indexOf_b2_S xW_row ) n = k2
      intro hk2 hf
      unfold fX3_indexOf_b2_S at hf
      refine g_iload_n hC 2 dX3_indexOf_2 rfl rfl ?_
      refine g_aload_n hC 0 dX3_indexOf_3 rfl rfl ?_
      obtain ⟨z4, hz4, hf⟩ := gd_b hf
      refine g_callVi (wr := []) (wn := [oO aW 2 [.ref aP, .int xW_row, .int xW_quiets, .int xW_place, .int xW_turned]]) hC [] (cX3_size_m (kl X) (kD X) aP aW xW_row xW_quiets xW_place xW_turned z4 hz4) gX3_indexOf_X3_size rfl kyX3_size rfl rfl rfl (q0 := 0) rfl [0] [] [] [0] rfl rfl rfl rfl (by decide) rfl rfl rfl ⟨rfl, rfl⟩ ⟨Nat.le_of_ble_eq_true rfl, Nat.le_of_ble_eq_true rfl⟩ (Nat.le_of_ble_eq_true rfl) rfl dX3_indexOf_4 ?_
      refine g_icmp_ge (tgt := 27) hC dX3_indexOf_7 (by decide) (fun hc => ?_) (fun hc => ?_)
      · replace hf := gd_t hc hf
        refine g_bipush (v := (-9 : Int32)) hC dX3_indexOf_27 cb_m9 ?_
        exact hQ ((-9 : Int32)) _ _ (gd_s hf) dX3_indexOf_29
      · replace hf := gd_f hc hf
        refine g_aload_n hC 0 dX3_indexOf_10 rfl rfl ?_
        refine g_iload_n hC 2 dX3_indexOf_11 rfl rfl ?_
        obtain ⟨z12, hz12, hf⟩ := gd_b hf
        refine g_callVi (wr := []) (wn := [oO aW 2 [.ref aP, .int xW_row, .int xW_quiets, .int xW_place, .int xW_turned]]) hC [.int j2] (cX3_walkerAt_m (kl X) (kD X) aP aW xW_row xW_quiets xW_place xW_turned j2 z12 hz12) gX3_indexOf_X3_walkerAt rfl kyX3_walkerAt rfl rfl rfl (q0 := 0) rfl [0] [] [] [0] rfl rfl rfl rfl (by decide) rfl rfl rfl ⟨rfl, rfl⟩ ⟨Nat.le_of_ble_eq_true rfl, Nat.le_of_ble_eq_true rfl⟩ (Nat.le_of_ble_eq_true rfl) rfl dX3_indexOf_12 ?_
        refine g_iload_n hC 1 dX3_indexOf_15 rfl rfl ?_
        refine g_icmp_ne (tgt := 21) hC dX3_indexOf_16 (by decide) (fun hc => ?_) (fun hc => ?_)
        · replace hf := gd_f hc hf
          refine g_iinc (v := (j2 + (1 : Int32))) (lv' := [(2, .int (j2 + (1 : Int32))), (0, .ref aW), (1, .int j1)]) hC 2 dX3_indexOf_21 rfl (ii _ ci_1) (by decide) rfl ?_
          refine g_goto (tgt := 2) hC dX3_indexOf_24 (by decide) ?_
          refine g_lv (lv' := [(0, .ref aW), (1, .int j1), (2, .int (j2 + (1 : Int32)))]) [1, 2, 0] rfl ?_
          exact hk2 j1 (j2 + (1 : Int32)) hf
        · replace hf := gd_t hc hf
          refine g_iload_n hC 2 dX3_indexOf_19 rfl rfl ?_
          exact hQ (j2) _ _ (gd_s hf) dX3_indexOf_20
  unfold fX3_indexOf at hf
  refine g_iconst (v := (0 : Int32)) hC dX3_indexOf_0 ci_0 ?_
  refine g_istore_n (lv' := [(2, .int (0 : Int32)), (0, .ref aW), (1, .int j1)]) hC dX3_indexOf_1 rfl (by decide) rfl ?_
  refine g_lv (lv' := [(0, .ref aW), (1, .int j1), (2, .int (0 : Int32))]) [1, 2, 0] rfl ?_
  exact t2  fu j1 (0 : Int32) hf
theorem kyX3_behind : yX3_behind.cls = RX3 ∧ yX3_behind.cls ≠ "java/lang/invoke/MethodHandle" ∧ yX3_behind.cls ≠ "java/lang/invoke/VarHandle" ∧ (parseMethodDescriptor yX3_behind.desc).map (fun d => d.parameters.length) = some 1 := by decide +kernel
set_option maxHeartbeats 4000000 in
set_option maxRecDepth 100000 in
theorem cX3_behind_m (l : Launch) (D : va_G) (aP aW : Nat) (xW_row : Int32) (xW_quiets : Int32) (xW_place : Int32) (xW_turned : Int32) (j1 : Int32) (z : Int32) (hf : fX3_behind j1 xW_row = some z) : ∀ sz : Nat, Met l yX3_behind wsX3_behind ({ frames := 4, cells := 0, slots := 0, locals := 84 } : Room) (kPre D [] [oO aW 2 [.ref aP, .int xW_row, .int xW_quiets, .int xW_place, .int xW_turned]] sz [.ref aW, .int j1]) (kQi D [] [oO aW 2 [.ref aP, .int xW_row, .int xW_quiets, .int xW_place, .int xW_turned]] sz [oO aW 2 [.ref aP, .int xW_row, .int xW_quiets, .int xW_place, .int xW_turned]] z) 0 0 (va_A [oO aW 2 [.ref aP, .int xW_row, .int xW_quiets, .int xW_place, .int xW_turned]] sz) := by
  refine kMet_i (own := RX3) z (fun u => u) (fun u => [oO aW 2 [.ref aP, .int xW_row, .int xW_quiets, .int xW_place, .int xW_turned]]) rfl (by decide) rfl ⟨rfl, rfl⟩ (Nat.le_of_ble_eq_true rfl) ?_
  intro X hXl hXD hC hQ
  subst hXl
  subst hXD
  change kG X 0 [(0, .ref aW), (1, .int j1)] [] [oO aW 2 [.ref aP, .int xW_row, .int xW_quiets, .int xW_place, .int xW_turned]]
  have t22 : fX3_behind_b22 xW_row = some z → kG X 22 [] [] [oO aW 2 [.ref aP, .int xW_row, .int xW_quiets, .int xW_place, .int xW_turned]] := by
    intro  hf
    unfold fX3_behind_b22 at hf
    refine g_bipush (v := (-9 : Int32)) hC dX3_behind_22 cb_m9 ?_
    refine g_goto (tgt := 34) hC dX3_behind_24 (by decide) ?_
    exact hQ ((-9 : Int32)) _ _ (gd_s hf) dX3_behind_34
  unfold fX3_behind at hf
  refine g_aload_n hC 0 dX3_behind_0 rfl rfl ?_
  refine g_iload_n hC 1 dX3_behind_1 rfl rfl ?_
  obtain ⟨z2, hz2, hf⟩ := gd_b hf
  refine g_callVi (wr := []) (wn := [oO aW 2 [.ref aP, .int xW_row, .int xW_quiets, .int xW_place, .int xW_turned]]) hC [.int j1] (cX3_indexOf_m (kl X) (kD X) aP aW xW_row xW_quiets xW_place xW_turned j1 z2 hz2) gX3_behind_X3_indexOf rfl kyX3_indexOf rfl rfl rfl (q0 := 0) rfl [0] [] [] [0] rfl rfl rfl rfl (by decide) rfl rfl rfl ⟨rfl, rfl⟩ ⟨Nat.le_of_ble_eq_true rfl, Nat.le_of_ble_eq_true rfl⟩ (Nat.le_of_ble_eq_true rfl) rfl dX3_behind_2 ?_
  refine g_istore_n (lv' := [(2, .int z2), (0, .ref aW), (1, .int j1)]) hC dX3_behind_5 rfl (by decide) rfl ?_
  refine g_iload_n hC 0 dX3_behind_6 rfl rfl ?_
  refine g_bipush (v := (-9 : Int32)) hC dX3_behind_7 cb_m9 ?_
  refine g_icmp_eq (tgt := 22) hC dX3_behind_9 (by decide) (fun hc => ?_) (fun hc => ?_)
  · replace hf := gd_t hc hf
    refine g_lv (lv' := []) [] rfl ?_
    exact t22   hf
  · replace hf := gd_f hc hf
    refine g_iload_n hC 0 dX3_behind_12 rfl rfl ?_
    refine g_iconst (v := (1 : Int32)) hC dX3_behind_13 ci_1 ?_
    refine g_iadd hC dX3_behind_14 ?_
    refine g_aload_n hC 1 dX3_behind_15 rfl rfl ?_
    obtain ⟨z16, hz16, hf⟩ := gd_b hf
    refine g_callVi (wr := []) (wn := [oO aW 2 [.ref aP, .int xW_row, .int xW_quiets, .int xW_place, .int xW_turned]]) hC [] (cX3_size_m (kl X) (kD X) aP aW xW_row xW_quiets xW_place xW_turned z16 hz16) gX3_behind_X3_size rfl kyX3_size rfl rfl rfl (q0 := 0) rfl [0] [] [] [0] rfl rfl rfl rfl (by decide) rfl rfl rfl ⟨rfl, rfl⟩ ⟨Nat.le_of_ble_eq_true rfl, Nat.le_of_ble_eq_true rfl⟩ (Nat.le_of_ble_eq_true rfl) rfl dX3_behind_16 ?_
    refine g_icmp_lt (tgt := 27) hC dX3_behind_19 (by decide) (fun hc => ?_) (fun hc => ?_)
    · replace hf := gd_t hc hf
      refine g_aload_n hC 1 dX3_behind_27 rfl rfl ?_
      refine g_iload_n hC 0 dX3_behind_28 rfl rfl ?_
      refine g_iconst (v := (1 : Int32)) hC dX3_behind_29 ci_1 ?_
      refine g_iadd hC dX3_behind_30 ?_
      obtain ⟨z31, hz31, hf⟩ := gd_b hf
      refine g_callVi (wr := []) (wn := [oO aW 2 [.ref aP, .int xW_row, .int xW_quiets, .int xW_place, .int xW_turned]]) hC [.int (z2 + (1 : Int32))] (cX3_walkerAt_m (kl X) (kD X) aP aW xW_row xW_quiets xW_place xW_turned (z2 + (1 : Int32)) z31 hz31) gX3_behind_X3_walkerAt rfl kyX3_walkerAt rfl rfl rfl (q0 := 0) rfl [0] [] [] [0] rfl rfl rfl rfl (by decide) rfl rfl rfl ⟨rfl, rfl⟩ ⟨Nat.le_of_ble_eq_true rfl, Nat.le_of_ble_eq_true rfl⟩ (Nat.le_of_ble_eq_true rfl) rfl dX3_behind_31 ?_
      exact hQ (z31) _ _ (gd_s hf) dX3_behind_34
    · replace hf := gd_f hc hf
      refine g_lv (lv' := []) [] rfl ?_
      exact t22   hf
theorem kyX3_state : yX3_state.cls = RX3 ∧ yX3_state.cls ≠ "java/lang/invoke/MethodHandle" ∧ yX3_state.cls ≠ "java/lang/invoke/VarHandle" ∧ (parseMethodDescriptor yX3_state.desc).map (fun d => d.parameters.length) = some 0 := by decide +kernel
set_option maxHeartbeats 4000000 in
set_option maxRecDepth 100000 in
theorem cX3_state_m (l : Launch) (D : va_G) (aP aW : Nat) (xW_row : Int32) (xW_quiets : Int32) (xW_place : Int32) (xW_turned : Int32)  (z : Int64) (hf : fX3_state xW_row xW_quiets xW_place = some z) : ∀ sz : Nat, Met l yX3_state wsX3_state ({ frames := 0, cells := 0, slots := 0, locals := 0 } : Room) (kPre D [] [oO aW 2 [.ref aP, .int xW_row, .int xW_quiets, .int xW_place, .int xW_turned]] sz [.ref aW]) (kQl D [] [oO aW 2 [.ref aP, .int xW_row, .int xW_quiets, .int xW_place, .int xW_turned]] sz [oO aW 2 [.ref aP, .int xW_row, .int xW_quiets, .int xW_place, .int xW_turned]] z) 0 0 (va_A [oO aW 2 [.ref aP, .int xW_row, .int xW_quiets, .int xW_place, .int xW_turned]] sz) := by
  refine kMet_l (own := RX3) z (fun u => u) (fun u => [oO aW 2 [.ref aP, .int xW_row, .int xW_quiets, .int xW_place, .int xW_turned]]) rfl (by decide) rfl ⟨rfl, rfl⟩ (Nat.le_of_ble_eq_true rfl) ?_
  intro X hXl hXD hC hQ
  subst hXl
  subst hXD
  change kG X 0 [(0, .ref aW)] [] [oO aW 2 [.ref aP, .int xW_row, .int xW_quiets, .int xW_place, .int xW_turned]]
  have hinX3 : ∀ w ∈ wsX30, w ∈ wsX3_state := fun _ h => List.mem_cons_of_mem _ (List.mem_append_right _ h)
  unfold fX3_state at hf
  refine g_aload_n hC 0 dX3_state_0 rfl rfl ?_
  refine g_get (C := RX3) (T := TX3) (N := 5) (v := .int xW_place) hC hinX3 0 3 rfl rfl (by decide) (List.mem_of_getElem? (i := 1) rfl) rfl dX3_state_1 ?_
  refine g_i2l hC dX3_state_4 ?_
  refine g_bipush (v := (20 : Int32)) hC dX3_state_5 cb_20 ?_
  refine g_lshl hC dX3_state_7 ?_
  refine g_aload_n hC 0 dX3_state_8 rfl rfl ?_
  refine g_get (C := RX3) (T := TX3) (N := 5) (v := .int xW_quiets) hC hinX3 0 2 rfl rfl (by decide) (List.mem_of_getElem? (i := 2) rfl) rfl dX3_state_9 ?_
  refine g_i2l hC dX3_state_12 ?_
  refine g_lor hC dX3_state_13 ?_
  refine g_bipush (v := (20 : Int32)) hC dX3_state_14 cb_20 ?_
  refine g_lshl hC dX3_state_16 ?_
  refine g_aload_n hC 0 dX3_state_17 rfl rfl ?_
  refine g_get (C := RX3) (T := TX3) (N := 5) (v := .int xW_row) hC hinX3 0 1 rfl rfl (by decide) (List.mem_of_getElem? (i := 3) rfl) rfl dX3_state_18 ?_
  refine g_i2l hC dX3_state_21 ?_
  refine g_lor hC dX3_state_22 ?_
  exact hQ (((((xW_place.toInt64 <<< ((20 : Int32).toInt64 &&& 63)) ||| xW_quiets.toInt64) <<< ((20 : Int32).toInt64 &&& 63)) ||| xW_row.toInt64)) _ _ (gd_s hf) dX3_state_23
theorem kyX3_isHeard : yX3_isHeard.cls = RX3 ∧ yX3_isHeard.cls ≠ "java/lang/invoke/MethodHandle" ∧ yX3_isHeard.cls ≠ "java/lang/invoke/VarHandle" ∧ (parseMethodDescriptor yX3_isHeard.desc).map (fun d => d.parameters.length) = some 2 := by decide +kernel
set_option maxHeartbeats 4000000 in
set_option maxRecDepth 100000 in
theorem cX3_isHeard_m (l : Launch) (D : va_G) (aP aW : Nat) (xP_walkers : Int32) (xP_light : Int32) (xP_water : Int32) (xP_nerves : Int32) (xP_kinds : Int32) (xW_row : Int32) (xW_quiets : Int32) (xW_place : Int32) (xW_turned : Int32) (j1 : Int32) (j2 : Int32) (z : Int32) (hf : fX3_isHeard j1 j2 xP_water xP_kinds xW_place = some z) : ∀ sz : Nat, Met l yX3_isHeard wsX3_isHeard ({ frames := 2, cells := 0, slots := 0, locals := 42 } : Room) (kPre D [] [oO aP 0 [.int xP_walkers, .int xP_light, .int xP_water, .int xP_nerves, .int xP_kinds], oO aW 2 [.ref aP, .int xW_row, .int xW_quiets, .int xW_place, .int xW_turned]] sz [.ref aW, .int j1, .int j2]) (kQi D [] [oO aP 0 [.int xP_walkers, .int xP_light, .int xP_water, .int xP_nerves, .int xP_kinds], oO aW 2 [.ref aP, .int xW_row, .int xW_quiets, .int xW_place, .int xW_turned]] sz [oO aP 0 [.int xP_walkers, .int xP_light, .int xP_water, .int xP_nerves, .int xP_kinds], oO aW 2 [.ref aP, .int xW_row, .int xW_quiets, .int xW_place, .int xW_turned]] z) 0 0 (va_A [oO aP 0 [.int xP_walkers, .int xP_light, .int xP_water, .int xP_nerves, .int xP_kinds], oO aW 2 [.ref aP, .int xW_row, .int xW_quiets, .int xW_place, .int xW_turned]] sz) := by
  refine kMet_z (own := RX3) z (fun u => u) (fun u => [oO aP 0 [.int xP_walkers, .int xP_light, .int xP_water, .int xP_nerves, .int xP_kinds], oO aW 2 [.ref aP, .int xW_row, .int xW_quiets, .int xW_place, .int xW_turned]]) rfl (by decide) rfl ⟨rfl, rfl⟩ (Nat.le_of_ble_eq_true rfl) ?_
  intro X hXl hXD hC hQ
  subst hXl
  subst hXD
  change kG X 0 [(0, .ref aW), (1, .int j1), (2, .int j2)] [] [oO aP 0 [.int xP_walkers, .int xP_light, .int xP_water, .int xP_nerves, .int xP_kinds], oO aW 2 [.ref aP, .int xW_row, .int xW_quiets, .int xW_place, .int xW_turned]]
  have hinX3 : ∀ w ∈ wsX30, w ∈ wsX3_isHeard := fun _ h => List.mem_cons_of_mem _ (List.mem_append_left _ (List.mem_append_right _ h))
  have t75 : fX3_isHeard_b75 xP_water xP_kinds xW_place = some z → kG X 75 [] [] [oO aP 0 [.int xP_walkers, .int xP_light, .int xP_water, .int xP_nerves, .int xP_kinds], oO aW 2 [.ref aP, .int xW_row, .int xW_quiets, .int xW_place, .int xW_turned]] := by
    intro  hf
    unfold fX3_isHeard_b75 at hf
    refine g_iconst (v := (1 : Int32)) hC dX3_isHeard_75 ci_1 ?_
    refine g_goto (tgt := 80) hC dX3_isHeard_76 (by decide) ?_
    exact hQ ((1 : Int32)) _ _ (gd_s hf) (nz_of (Or.inr rfl)) dX3_isHeard_80
  have t44 : ∀  (j3 : Int32) (j4 : Int32) (y0 : Int32), fX3_isHeard_b44 xP_water xP_kinds xW_place  j3 j4 y0 = some z → kG X 44 [(0, .ref aW), (3, .int j3), (4, .int j4)] [.int y0] [oO aP 0 [.int xP_walkers, .int xP_light, .int xP_water, .int xP_nerves, .int xP_kinds], oO aW 2 [.ref aP, .int xW_row, .int xW_quiets, .int xW_place, .int xW_turned]] := by
    intro j3 j4 y0 hf
    unfold fX3_isHeard_b44 at hf
    refine g_istore (lv' := [(5, .int y0), (0, .ref aW), (3, .int j3), (4, .int j4)]) hC dX3_isHeard_44 (by decide) rfl ?_
    refine g_aload_n hC 1 dX3_isHeard_46 rfl rfl ?_
    refine g_get (C := RX3) (T := TX3) (N := 5) (v := .int xW_place) hC hinX3 1 3 rfl rfl (by decide) (List.mem_of_getElem? (i := 2) rfl) rfl dX3_isHeard_47 ?_
    refine g_aload_n hC 1 dX3_isHeard_50 rfl rfl ?_
    refine g_get (C := RX3) (T := TX3) (N := 5) (v := .ref aP) hC hinX3 1 0 rfl rfl (by decide) (List.mem_of_getElem? (i := 1) rfl) rfl dX3_isHeard_51 ?_
    obtain ⟨z54, hz54, hf⟩ := gd_b hf
    refine g_callVi (wr := [oO aW 2 [.ref aP, .int xW_row, .int xW_quiets, .int xW_place, .int xW_turned]]) (wn := [oO aP 0 [.int xP_walkers, .int xP_light, .int xP_water, .int xP_nerves, .int xP_kinds], oO aW 2 [.ref aP, .int xW_row, .int xW_quiets, .int xW_place, .int xW_turned]]) hC [] (cX1_water_m (kl X) (kD X) aP xP_walkers xP_light xP_water xP_nerves xP_kinds z54 hz54) gX3_isHeard_X1_water rfl kyX1_water rfl rfl rfl (q0 := 0) rfl [0] [1] [] [1, 0] rfl rfl rfl rfl (by decide) rfl rfl rfl ⟨rfl, rfl⟩ ⟨Nat.le_of_ble_eq_true rfl, Nat.le_of_ble_eq_true rfl⟩ (Nat.le_of_ble_eq_true rfl) rfl dX3_isHeard_54 ?_
    refine g_icmp_eq (tgt := 75) hC dX3_isHeard_57 (by decide) (fun hc => ?_) (fun hc => ?_)
    · replace hf := gd_t hc hf
      refine g_lv (lv' := []) [] rfl ?_
      exact t75   hf
    · replace hf := gd_f hc hf
      refine g_iload_n hC 2 dX3_isHeard_60 rfl rfl ?_
      refine g_iconst (v := (2 : Int32)) hC dX3_isHeard_61 ci_2 ?_
      refine g_icmp_eq (tgt := 75) hC dX3_isHeard_62 (by decide) (fun hc => ?_) (fun hc => ?_)
      · replace hf := gd_t hc hf
        refine g_lv (lv' := []) [] rfl ?_
        exact t75   hf
      · replace hf := gd_f hc hf
        refine g_iload hC 3 dX3_isHeard_65 rfl ?_
        refine g_if_eq (tgt := 79) hC dX3_isHeard_67 (by decide) (fun hc => ?_) (fun hc => ?_)
        · replace hf := gd_t hc hf
          refine g_iconst (v := (0 : Int32)) hC dX3_isHeard_79 ci_0 ?_
          exact hQ ((0 : Int32)) _ _ (gd_s hf) (nz_of (Or.inl rfl)) dX3_isHeard_80
        · replace hf := gd_f hc hf
          refine g_iload hC 0 dX3_isHeard_70 rfl ?_
          refine g_if_ne (tgt := 79) hC dX3_isHeard_72 (by decide) (fun hc => ?_) (fun hc => ?_)
          · replace hf := gd_f hc hf
            refine g_iconst (v := (0 : Int32)) hC dX3_isHeard_79 ci_0 ?_
            exact hQ ((0 : Int32)) _ _ (gd_s hf) (nz_of (Or.inl rfl)) dX3_isHeard_80
          · replace hf := gd_t hc hf
            refine g_lv (lv' := []) [] rfl ?_
            exact t75   hf
  have t43 : ∀  (j3 : Int32) (j4 : Int32), fX3_isHeard_b43 xP_water xP_kinds xW_place  j3 j4 = some z → kG X 43 [(0, .ref aW), (3, .int j3), (4, .int j4)] [] [oO aP 0 [.int xP_walkers, .int xP_light, .int xP_water, .int xP_nerves, .int xP_kinds], oO aW 2 [.ref aP, .int xW_row, .int xW_quiets, .int xW_place, .int xW_turned]] := by
    intro j3 j4 hf
    unfold fX3_isHeard_b43 at hf
    refine g_iconst (v := (0 : Int32)) hC dX3_isHeard_43 ci_0 ?_
    exact t44  j3 j4 (0 : Int32) hf
  have t23 : ∀  (j3 : Int32) (y0 : Int32), fX3_isHeard_b23 xP_water xP_kinds xW_place  j3 y0 = some z → kG X 23 [(0, .ref aW), (3, .int j3)] [.int y0] [oO aP 0 [.int xP_walkers, .int xP_light, .int xP_water, .int xP_nerves, .int xP_kinds], oO aW 2 [.ref aP, .int xW_row, .int xW_quiets, .int xW_place, .int xW_turned]] := by
    intro j3 y0 hf
    unfold fX3_isHeard_b23 at hf
    refine g_istore (lv' := [(4, .int y0), (0, .ref aW), (3, .int j3)]) hC dX3_isHeard_23 (by decide) rfl ?_
    refine g_iload_n hC 2 dX3_isHeard_25 rfl rfl ?_
    refine g_iconst (v := (3 : Int32)) hC dX3_isHeard_26 ci_3 ?_
    refine g_icmp_ne (tgt := 43) hC dX3_isHeard_27 (by decide) (fun hc => ?_) (fun hc => ?_)
    · replace hf := gd_f hc hf
      refine g_lv (lv' := [(0, .ref aW), (3, .int j3), (4, .int y0)]) [1, 2, 0] rfl ?_
      exact t43  j3 y0 hf
    · replace hf := gd_t hc hf
      refine g_aload_n hC 1 dX3_isHeard_30 rfl rfl ?_
      refine g_get (C := RX3) (T := TX3) (N := 5) (v := .int xW_place) hC hinX3 1 3 rfl rfl (by decide) (List.mem_of_getElem? (i := 2) rfl) rfl dX3_isHeard_31 ?_
      refine g_iconst (v := (2 : Int32)) hC dX3_isHeard_34 ci_2 ?_
      refine g_irem hC dX3_isHeard_35 (by decide) ?_
      refine g_if_eq (tgt := 43) hC dX3_isHeard_36 (by decide) (fun hc => ?_) (fun hc => ?_)
      · replace hf := gd_t hc hf
        refine g_lv (lv' := [(0, .ref aW), (3, .int j3), (4, .int y0)]) [1, 2, 0] rfl ?_
        exact t43  j3 y0 hf
      · replace hf := gd_f hc hf
        refine g_iconst (v := (1 : Int32)) hC dX3_isHeard_39 ci_1 ?_
        refine g_goto (tgt := 44) hC dX3_isHeard_40 (by decide) ?_
        refine g_lv (lv' := [(0, .ref aW), (3, .int j3), (4, .int y0)]) [1, 2, 0] rfl ?_
        exact t44  j3 y0 (1 : Int32) hf
  unfold fX3_isHeard at hf
  refine g_aload_n hC 0 dX3_isHeard_0 rfl rfl ?_
  refine g_get (C := RX3) (T := TX3) (N := 5) (v := .ref aP) hC hinX3 1 0 rfl rfl (by decide) (List.mem_of_getElem? (i := 1) rfl) rfl dX3_isHeard_1 ?_
  refine g_iload_n hC 1 dX3_isHeard_4 rfl rfl ?_
  obtain ⟨z5, hz5, hf⟩ := gd_b hf
  refine g_callVi (wr := [oO aW 2 [.ref aP, .int xW_row, .int xW_quiets, .int xW_place, .int xW_turned]]) (wn := [oO aP 0 [.int xP_walkers, .int xP_light, .int xP_water, .int xP_nerves, .int xP_kinds], oO aW 2 [.ref aP, .int xW_row, .int xW_quiets, .int xW_place, .int xW_turned]]) hC [.int j1] (cX1_kind_m (kl X) (kD X) aP xP_walkers xP_light xP_water xP_nerves xP_kinds j1 z5 hz5) gX3_isHeard_X1_kind rfl kyX1_kind rfl rfl rfl (q0 := 0) rfl [0] [1] [] [1, 0] rfl rfl rfl rfl (by decide) rfl rfl rfl ⟨rfl, rfl⟩ ⟨Nat.le_of_ble_eq_true rfl, Nat.le_of_ble_eq_true rfl⟩ (Nat.le_of_ble_eq_true rfl) rfl dX3_isHeard_5 ?_
  refine g_istore_n (lv' := [(3, .int z5), (0, .ref aW), (1, .int j1), (2, .int j2)]) hC dX3_isHeard_8 rfl (by decide) rfl ?_
  refine g_iload_n hC 3 dX3_isHeard_9 rfl rfl ?_
  refine g_iload_n hC 2 dX3_isHeard_10 rfl rfl ?_
  refine g_ishr hC dX3_isHeard_11 ?_
  refine g_iconst (v := (1 : Int32)) hC dX3_isHeard_12 ci_1 ?_
  refine g_iand hC dX3_isHeard_13 ?_
  refine g_iconst (v := (1 : Int32)) hC dX3_isHeard_14 ci_1 ?_
  refine g_icmp_ne (tgt := 22) hC dX3_isHeard_15 (by decide) (fun hc => ?_) (fun hc => ?_)
  · replace hf := gd_f hc hf
    refine g_iconst (v := (0 : Int32)) hC dX3_isHeard_22 ci_0 ?_
    refine g_lv (lv' := [(0, .ref aW), (3, .int z5)]) [1, 0] rfl ?_
    exact t23  z5 (0 : Int32) hf
  · replace hf := gd_t hc hf
    refine g_iconst (v := (1 : Int32)) hC dX3_isHeard_18 ci_1 ?_
    refine g_goto (tgt := 23) hC dX3_isHeard_19 (by decide) ?_
    refine g_lv (lv' := [(0, .ref aW), (3, .int z5)]) [1, 0] rfl ?_
    exact t23  z5 (1 : Int32) hf
theorem kyX3_setQuiet : yX3_setQuiet.cls = RX3 ∧ yX3_setQuiet.cls ≠ "java/lang/invoke/MethodHandle" ∧ yX3_setQuiet.cls ≠ "java/lang/invoke/VarHandle" ∧ (parseMethodDescriptor yX3_setQuiet.desc).map (fun d => d.parameters.length) = some 2 := by decide +kernel
set_option maxHeartbeats 4000000 in
set_option maxRecDepth 100000 in
theorem cX3_setQuiet_m (l : Launch) (D : va_G) (aP aW : Nat) (xW_row : Int32) (xW_quiets : Int32) (xW_place : Int32) (xW_turned : Int32) (j1 : Int32) (j2 : Int32) (z : Int32) (hf : fX3_setQuiet j1 j2 xW_quiets = some z) : ∀ sz : Nat, Met l yX3_setQuiet wsX3_setQuiet ({ frames := 1, cells := 0, slots := 0, locals := 22 } : Room) (kPre D [] [oO aW 2 [.ref aP, .int xW_row, .int xW_quiets, .int xW_place, .int xW_turned]] sz [.ref aW, .int j1, .int j2]) (kQv D [] [oO aW 2 [.ref aP, .int xW_row, .int xW_quiets, .int xW_place, .int xW_turned]] sz [oO aW 2 [.ref aP, .int xW_row, .int z, .int xW_place, .int xW_turned]]) 0 0 (va_A [oO aW 2 [.ref aP, .int xW_row, .int xW_quiets, .int xW_place, .int xW_turned]] sz) := by
  refine kMet_v (own := RX3) z (fun u => [oO aW 2 [.ref aP, .int xW_row, .int u, .int xW_place, .int xW_turned]]) rfl (by decide) rfl ⟨rfl, rfl⟩ (Nat.le_of_ble_eq_true rfl) ?_
  intro X hXl hXD hC hQ
  subst hXl
  subst hXD
  change kG X 0 [(0, .ref aW), (1, .int j1), (2, .int j2)] [] [oO aW 2 [.ref aP, .int xW_row, .int xW_quiets, .int xW_place, .int xW_turned]]
  have hinX3 : ∀ w ∈ wsX30, w ∈ wsX3_setQuiet := fun _ h => List.mem_cons_of_mem _ (List.mem_append_right _ h)
  unfold fX3_setQuiet at hf
  refine g_aload_n hC 0 dX3_setQuiet_0 rfl rfl ?_
  refine g_aload_n hC 0 dX3_setQuiet_1 rfl rfl ?_
  refine g_get (C := RX3) (T := TX3) (N := 5) (v := .int xW_quiets) hC hinX3 0 2 rfl rfl (by decide) (List.mem_of_getElem? (i := 1) rfl) rfl dX3_setQuiet_2 ?_
  refine g_iload_n hC 1 dX3_setQuiet_5 rfl rfl ?_
  refine g_iload_n hC 2 dX3_setQuiet_6 rfl rfl ?_
  obtain ⟨z7, hz7, hf⟩ := gd_b hf
  refine g_callSi (wr := [oO aW 2 [.ref aP, .int xW_row, .int xW_quiets, .int xW_place, .int xW_turned]]) (wn := [oO aW 2 [.ref aP, .int xW_row, .int xW_quiets, .int xW_place, .int xW_turned]]) hC [.int xW_quiets, .int j1, .int j2] (cX0_with_m (kl X) (kD X) xW_quiets j1 j2 z7 hz7) gX3_setQuiet_X0_with rfl kyX0_with rfl [] [0] [] [0] rfl rfl rfl rfl (by decide) rfl rfl rfl ⟨rfl, rfl⟩ ⟨Nat.le_of_ble_eq_true rfl, Nat.le_of_ble_eq_true rfl⟩ (Nat.le_of_ble_eq_true rfl) rfl dX3_setQuiet_7 ?_
  refine g_put (C := RX3) (T := TX3) (N := 5) (ty := .int) (ws' := [oO aW 2 [.ref aP, .int xW_row, .int z7, .int xW_place, .int xW_turned]]) hC tyX3_ok nmX3 hinX3 0 2 rfl rfl (by decide) (List.mem_of_getElem? (i := 1) rfl) rfl rfl rfl rfl (Nat.le_of_ble_eq_true rfl) dX3_setQuiet_10 rfl ?_
  exact hQ (z7) _ _ (gd_s hf) dX3_setQuiet_13
theorem kyX3_turnRound : yX3_turnRound.cls = RX3 ∧ yX3_turnRound.cls ≠ "java/lang/invoke/MethodHandle" ∧ yX3_turnRound.cls ≠ "java/lang/invoke/VarHandle" ∧ (parseMethodDescriptor yX3_turnRound.desc).map (fun d => d.parameters.length) = some 0 := by decide +kernel
set_option maxHeartbeats 4000000 in
set_option maxRecDepth 100000 in
theorem cX3_turnRound_m (l : Launch) (D : va_G) (aP aW : Nat) (xP_walkers : Int32) (xP_light : Int32) (xP_water : Int32) (xP_nerves : Int32) (xP_kinds : Int32) (xW_row : Int32) (xW_quiets : Int32) (xW_place : Int32) (xW_turned : Int32)  (z : Int32 × Int32 × Int32 × Int32) (hf : fX3_turnRound xP_nerves xP_kinds xW_row xW_quiets xW_turned = some z) : ∀ sz : Nat, Met l yX3_turnRound wsX3_turnRound ({ frames := 2, cells := 0, slots := 0, locals := 44 } : Room) (kPre D [] [oO aP 0 [.int xP_walkers, .int xP_light, .int xP_water, .int xP_nerves, .int xP_kinds], oO aW 2 [.ref aP, .int xW_row, .int xW_quiets, .int xW_place, .int xW_turned]] sz [.ref aW]) (kQi D [] [oO aP 0 [.int xP_walkers, .int xP_light, .int xP_water, .int xP_nerves, .int xP_kinds], oO aW 2 [.ref aP, .int xW_row, .int xW_quiets, .int xW_place, .int xW_turned]] sz [oO aP 0 [.int xP_walkers, .int xP_light, .int xP_water, .int xP_nerves, .int xP_kinds], oO aW 2 [.ref aP, .int z.2.1, .int z.2.2.1, .int xW_place, .int z.2.2.2]] z.1) 0 0 (va_A [oO aP 0 [.int xP_walkers, .int xP_light, .int xP_water, .int xP_nerves, .int xP_kinds], oO aW 2 [.ref aP, .int xW_row, .int xW_quiets, .int xW_place, .int xW_turned]] sz) := by
  refine kMet_i (own := RX3) z (fun u => u.1) (fun u => [oO aP 0 [.int xP_walkers, .int xP_light, .int xP_water, .int xP_nerves, .int xP_kinds], oO aW 2 [.ref aP, .int u.2.1, .int u.2.2.1, .int xW_place, .int u.2.2.2]]) rfl (by decide) rfl ⟨rfl, rfl⟩ (Nat.le_of_ble_eq_true rfl) ?_
  intro X hXl hXD hC hQ
  subst hXl
  subst hXD
  change kG X 0 [(0, .ref aW)] [] [oO aP 0 [.int xP_walkers, .int xP_light, .int xP_water, .int xP_nerves, .int xP_kinds], oO aW 2 [.ref aP, .int xW_row, .int xW_quiets, .int xW_place, .int xW_turned]]
  have hinX3 : ∀ w ∈ wsX30, w ∈ wsX3_turnRound := fun _ h => List.mem_cons_of_mem _ (List.mem_append_left _ (List.mem_append_right _ h))
  have t100 : ∀ (k9 : Int32 → Int32 → Int32 → Int32 → Int32 → Option (Int32 × Int32 × Int32 × Int32)) (hk9 : ∀ (j1 : Int32) (j2 : Int32) (xW_row : Int32) (xW_quiets : Int32) (xW_turned : Int32), k9 j1 j2 xW_row xW_quiets xW_turned = some z → kG X 9 [(0, .ref aW), (1, .int j1), (2, .int j2)] [] [oO aP 0 [.int xP_walkers, .int xP_light, .int xP_water, .int xP_nerves, .int xP_kinds], oO aW 2 [.ref aP, .int xW_row, .int xW_quiets, .int xW_place, .int xW_turned]]) (j1 : Int32) (j2 : Int32) (xW_row : Int32) (xW_quiets : Int32) (xW_turned : Int32), fX3_turnRound_b100 xP_nerves xP_kinds k9 j1 j2 xW_row xW_quiets xW_turned = some z → kG X 100 [(0, .ref aW), (1, .int j1), (2, .int j2)] [] [oO aP 0 [.int xP_walkers, .int xP_light, .int xP_water, .int xP_nerves, .int xP_kinds], oO aW 2 [.ref aP, .int xW_row, .int xW_quiets, .int xW_place, .int xW_turned]] := by
    intro k9 hk9 j1 j2 xW_row xW_quiets xW_turned hf
    unfold fX3_turnRound_b100 at hf
    refine g_iinc (v := (j2 + (1 : Int32))) (lv' := [(2, .int (j2 + (1 : Int32))), (0, .ref aW), (1, .int j1)]) hC 2 dX3_turnRound_100 rfl (ii _ ci_1) (by decide) rfl ?_
    refine g_goto (tgt := 9) hC dX3_turnRound_103 (by decide) ?_
    refine g_lv (lv' := [(0, .ref aW), (1, .int j1), (2, .int (j2 + (1 : Int32)))]) [1, 2, 0] rfl ?_
    exact hk9 j1 (j2 + (1 : Int32)) xW_row xW_quiets xW_turned hf
  have t9 : ∀  (n : Nat) (j1 : Int32) (j2 : Int32) (xW_row : Int32) (xW_quiets : Int32) (xW_turned : Int32), lp (fun _ _ _ _ _ => none) (fX3_turnRound_b9_S xP_nerves xP_kinds ) n j1 j2 xW_row xW_quiets xW_turned = some z → kG X 9 [(0, .ref aW), (1, .int j1), (2, .int j2)] [] [oO aP 0 [.int xP_walkers, .int xP_light, .int xP_water, .int xP_nerves, .int xP_kinds], oO aW 2 [.ref aP, .int xW_row, .int xW_quiets, .int xW_place, .int xW_turned]] := by
    intro  n
    induction n with
    | zero => intro j1 j2 xW_row xW_quiets xW_turned hf; cases hf
    | succ n hk9 =>
      intro j1 j2 xW_row xW_quiets xW_turned hf
      rw [lp_s] at hf
      revert hf hk9
      generalize lp (fun _ _ _ _ _ => none) (fX3_turnRound_b9_S xP_nerves xP_kinds ) n = k9
      intro hk9 hf
      unfold fX3_turnRound_b9_S at hf
      refine g_iload_n hC 2 dX3_turnRound_9 rfl rfl ?_
      refine g_iconst (v := (1 : Int32)) hC dX3_turnRound_10 ci_1 ?_
      refine g_iadd hC dX3_turnRound_11 ?_
      refine g_aload_n hC 0 dX3_turnRound_12 rfl rfl ?_
      refine g_get (C := RX3) (T := TX3) (N := 5) (v := .int xW_row) hC hinX3 1 1 rfl rfl (by decide) (List.mem_of_getElem? (i := 2) rfl) rfl dX3_turnRound_13 ?_
      obtain ⟨z16, hz16, hf⟩ := gd_b hf
      refine g_callSi (wr := [oO aP 0 [.int xP_walkers, .int xP_light, .int xP_water, .int xP_nerves, .int xP_kinds], oO aW 2 [.ref aP, .int xW_row, .int xW_quiets, .int xW_place, .int xW_turned]]) (wn := [oO aP 0 [.int xP_walkers, .int xP_light, .int xP_water, .int xP_nerves, .int xP_kinds], oO aW 2 [.ref aP, .int xW_row, .int xW_quiets, .int xW_place, .int xW_turned]]) hC [.int xW_row] (cX0_size_m (kl X) (kD X) xW_row z16 hz16) gX3_turnRound_X0_size rfl kyX0_size rfl [] [0, 1] [] [0, 1] rfl rfl rfl rfl (by decide) rfl rfl rfl ⟨rfl, rfl⟩ ⟨Nat.le_of_ble_eq_true rfl, Nat.le_of_ble_eq_true rfl⟩ (Nat.le_of_ble_eq_true rfl) rfl dX3_turnRound_16 ?_
      refine g_icmp_ge (tgt := 106) hC dX3_turnRound_19 (by decide) (fun hc => ?_) (fun hc => ?_)
      · replace hf := gd_t hc hf
        refine g_iload_n hC 1 dX3_turnRound_106 rfl rfl ?_
        exact hQ (j1, xW_row, xW_quiets, xW_turned) _ _ (gd_s hf) dX3_turnRound_107
      · replace hf := gd_f hc hf
        refine g_aload_n hC 0 dX3_turnRound_22 rfl rfl ?_
        refine g_iload_n hC 2 dX3_turnRound_23 rfl rfl ?_
        obtain ⟨z24, hz24, hf⟩ := gd_b hf
        refine g_callVi (wr := [oO aP 0 [.int xP_walkers, .int xP_light, .int xP_water, .int xP_nerves, .int xP_kinds]]) (wn := [oO aP 0 [.int xP_walkers, .int xP_light, .int xP_water, .int xP_nerves, .int xP_kinds], oO aW 2 [.ref aP, .int xW_row, .int xW_quiets, .int xW_place, .int xW_turned]]) hC [.int j2] (cX3_walkerAt_m (kl X) (kD X) aP aW xW_row xW_quiets xW_place xW_turned j2 z24 hz24) gX3_turnRound_X3_walkerAt rfl kyX3_walkerAt rfl rfl rfl (q0 := 0) rfl [1] [0] [] [0, 1] rfl rfl rfl rfl (by decide) rfl rfl rfl ⟨rfl, rfl⟩ ⟨Nat.le_of_ble_eq_true rfl, Nat.le_of_ble_eq_true rfl⟩ (Nat.le_of_ble_eq_true rfl) rfl dX3_turnRound_24 ?_
        refine g_istore_n (lv' := [(3, .int z24), (0, .ref aW), (1, .int j1), (2, .int j2)]) hC dX3_turnRound_27 rfl (by decide) rfl ?_
        refine g_aload_n hC 1 dX3_turnRound_28 rfl rfl ?_
        refine g_get (C := RX3) (T := TX3) (N := 5) (v := .ref aP) hC hinX3 1 0 rfl rfl (by decide) (List.mem_of_getElem? (i := 3) rfl) rfl dX3_turnRound_29 ?_
        refine g_iload_n hC 0 dX3_turnRound_32 rfl rfl ?_
        obtain ⟨z33, hz33, hf⟩ := gd_b hf
        refine g_callVi (wr := [oO aW 2 [.ref aP, .int xW_row, .int xW_quiets, .int xW_place, .int xW_turned]]) (wn := [oO aP 0 [.int xP_walkers, .int xP_light, .int xP_water, .int xP_nerves, .int xP_kinds], oO aW 2 [.ref aP, .int xW_row, .int xW_quiets, .int xW_place, .int xW_turned]]) hC [.int z24] (cX1_kind_m (kl X) (kD X) aP xP_walkers xP_light xP_water xP_nerves xP_kinds z24 z33 hz33) gX3_turnRound_X1_kind rfl kyX1_kind rfl rfl rfl (q0 := 0) rfl [0] [1] [] [1, 0] rfl rfl rfl rfl (by decide) rfl rfl rfl ⟨rfl, rfl⟩ ⟨Nat.le_of_ble_eq_true rfl, Nat.le_of_ble_eq_true rfl⟩ (Nat.le_of_ble_eq_true rfl) rfl dX3_turnRound_33 ?_
        refine g_iconst (v := (1 : Int32)) hC dX3_turnRound_36 ci_1 ?_
        refine g_icmp_eq (tgt := 100) hC dX3_turnRound_37 (by decide) (fun hc => ?_) (fun hc => ?_)
        · replace hf := gd_t hc hf
          refine g_lv (lv' := [(0, .ref aW), (1, .int j1), (2, .int j2)]) [1, 2, 3] rfl ?_
          exact t100 k9 hk9 j1 j2 xW_row xW_quiets xW_turned hf
        · replace hf := gd_f hc hf
          refine g_aload_n hC 1 dX3_turnRound_40 rfl rfl ?_
          refine g_iload_n hC 0 dX3_turnRound_41 rfl rfl ?_
          obtain ⟨z42, hz42, hf⟩ := gd_b hf
          refine g_callVi (wr := [oO aP 0 [.int xP_walkers, .int xP_light, .int xP_water, .int xP_nerves, .int xP_kinds]]) (wn := [oO aP 0 [.int xP_walkers, .int xP_light, .int xP_water, .int xP_nerves, .int xP_kinds], oO aW 2 [.ref aP, .int xW_row, .int xW_quiets, .int xW_place, .int xW_turned]]) hC [.int z24] (cX3_quiet_m (kl X) (kD X) aP aW xW_row xW_quiets xW_place xW_turned z24 z42 hz42) gX3_turnRound_X3_quiet rfl kyX3_quiet rfl rfl rfl (q0 := 0) rfl [1] [0] [] [0, 1] rfl rfl rfl rfl (by decide) rfl rfl rfl ⟨rfl, rfl⟩ ⟨Nat.le_of_ble_eq_true rfl, Nat.le_of_ble_eq_true rfl⟩ (Nat.le_of_ble_eq_true rfl) rfl dX3_turnRound_42 ?_
          refine g_aload_n hC 1 dX3_turnRound_45 rfl rfl ?_
          refine g_get (C := RX3) (T := TX3) (N := 5) (v := .ref aP) hC hinX3 1 0 rfl rfl (by decide) (List.mem_of_getElem? (i := 3) rfl) rfl dX3_turnRound_46 ?_
          refine g_iload_n hC 0 dX3_turnRound_49 rfl rfl ?_
          obtain ⟨z50, hz50, hf⟩ := gd_b hf
          refine g_callVi (wr := [oO aW 2 [.ref aP, .int xW_row, .int xW_quiets, .int xW_place, .int xW_turned]]) (wn := [oO aP 0 [.int xP_walkers, .int xP_light, .int xP_water, .int xP_nerves, .int xP_kinds], oO aW 2 [.ref aP, .int xW_row, .int xW_quiets, .int xW_place, .int xW_turned]]) hC [.int z24] (cX1_nerve_m (kl X) (kD X) aP xP_walkers xP_light xP_water xP_nerves xP_kinds z24 z50 hz50) gX3_turnRound_X1_nerve rfl kyX1_nerve rfl rfl rfl (q0 := 0) rfl [0] [1] [] [1, 0] rfl rfl rfl rfl (by decide) rfl rfl rfl ⟨rfl, rfl⟩ ⟨Nat.le_of_ble_eq_true rfl, Nat.le_of_ble_eq_true rfl⟩ (Nat.le_of_ble_eq_true rfl) rfl dX3_turnRound_50 ?_
          refine g_icmp_le (tgt := 100) hC dX3_turnRound_53 (by decide) (fun hc => ?_) (fun hc => ?_)
          · replace hf := gd_t hc hf
            refine g_lv (lv' := [(0, .ref aW), (1, .int j1), (2, .int j2)]) [1, 2, 3] rfl ?_
            exact t100 k9 hk9 j1 j2 xW_row xW_quiets xW_turned hf
          · replace hf := gd_f hc hf
            refine g_aload_n hC 1 dX3_turnRound_56 rfl rfl ?_
            refine g_dup hC dX3_turnRound_57 rfl ?_
            refine g_get (C := RX3) (T := TX3) (N := 5) (v := .int xW_turned) hC hinX3 1 4 rfl rfl (by decide) (List.mem_of_getElem? (i := 1) rfl) rfl dX3_turnRound_58 ?_
            refine g_iconst (v := (1 : Int32)) hC dX3_turnRound_61 ci_1 ?_
            refine g_iload_n hC 0 dX3_turnRound_62 rfl rfl ?_
            refine g_ishl hC dX3_turnRound_63 ?_
            refine g_ior hC dX3_turnRound_64 ?_
            refine g_put (C := RX3) (T := TX3) (N := 5) (ty := .int) (ws' := [oO aP 0 [.int xP_walkers, .int xP_light, .int xP_water, .int xP_nerves, .int xP_kinds], oO aW 2 [.ref aP, .int xW_row, .int xW_quiets, .int xW_place, .int (xW_turned ||| ((1 : Int32) <<< (z24 &&& 31)))]]) hC tyX3_ok nmX3 hinX3 1 4 rfl rfl (by decide) (List.mem_of_getElem? (i := 1) rfl) rfl rfl rfl rfl (Nat.le_of_ble_eq_true rfl) dX3_turnRound_65 rfl ?_
            refine g_iload_n hC 2 dX3_turnRound_68 rfl rfl ?_
            refine g_iconst (v := (1 : Int32)) hC dX3_turnRound_69 ci_1 ?_
            refine g_aload_n hC 1 dX3_turnRound_70 rfl rfl ?_
            refine g_iload_n hC 3 dX3_turnRound_71 rfl rfl ?_
            refine g_iconst (v := (1 : Int32)) hC dX3_turnRound_72 ci_1 ?_
            refine g_iadd hC dX3_turnRound_73 ?_
            obtain ⟨z74, hz74, hf⟩ := gd_b hf
            refine g_callVi (wr := [oO aP 0 [.int xP_walkers, .int xP_light, .int xP_water, .int xP_nerves, .int xP_kinds]]) (wn := [oO aP 0 [.int xP_walkers, .int xP_light, .int xP_water, .int xP_nerves, .int xP_kinds], oO aW 2 [.ref aP, .int xW_row, .int xW_quiets, .int xW_place, .int (xW_turned ||| ((1 : Int32) <<< (z24 &&& 31)))]]) hC [.int (j2 + (1 : Int32))] (cX3_walkerAt_m (kl X) (kD X) aP aW xW_row xW_quiets xW_place (xW_turned ||| ((1 : Int32) <<< (z24 &&& 31))) (j2 + (1 : Int32)) z74 hz74) gX3_turnRound_X3_walkerAt rfl kyX3_walkerAt rfl rfl rfl (q0 := 0) rfl [1] [0] [] [0, 1] rfl rfl rfl rfl (by decide) rfl rfl rfl ⟨rfl, rfl⟩ ⟨Nat.le_of_ble_eq_true rfl, Nat.le_of_ble_eq_true rfl⟩ (Nat.le_of_ble_eq_true rfl) rfl dX3_turnRound_74 ?_
            refine g_ishl hC dX3_turnRound_77 ?_
            refine g_ior hC dX3_turnRound_78 ?_
            refine g_istore_n (lv' := [(1, .int (j1 ||| ((1 : Int32) <<< (z74 &&& 31)))), (3, .int z24), (0, .ref aW), (2, .int j2)]) hC dX3_turnRound_79 rfl (by decide) rfl ?_
            refine g_aload_n hC 2 dX3_turnRound_80 rfl rfl ?_
            refine g_aload_n hC 2 dX3_turnRound_81 rfl rfl ?_
            refine g_get (C := RX3) (T := TX3) (N := 5) (v := .int xW_row) hC hinX3 1 1 rfl rfl (by decide) (List.mem_of_getElem? (i := 2) rfl) rfl dX3_turnRound_82 ?_
            refine g_iload_n hC 3 dX3_turnRound_85 rfl rfl ?_
            refine g_iconst (v := (1 : Int32)) hC dX3_turnRound_86 ci_1 ?_
            refine g_iadd hC dX3_turnRound_87 ?_
            obtain ⟨z88, hz88, hf⟩ := gd_b hf
            refine g_callSi (wr := [oO aP 0 [.int xP_walkers, .int xP_light, .int xP_water, .int xP_nerves, .int xP_kinds], oO aW 2 [.ref aP, .int xW_row, .int xW_quiets, .int xW_place, .int (xW_turned ||| ((1 : Int32) <<< (z24 &&& 31)))]]) (wn := [oO aP 0 [.int xP_walkers, .int xP_light, .int xP_water, .int xP_nerves, .int xP_kinds], oO aW 2 [.ref aP, .int xW_row, .int xW_quiets, .int xW_place, .int (xW_turned ||| ((1 : Int32) <<< (z24 &&& 31)))]]) hC [.int xW_row, .int (j2 + (1 : Int32))] (cX0_without_m (kl X) (kD X) xW_row (j2 + (1 : Int32)) z88 hz88) gX3_turnRound_X0_without rfl kyX0_without rfl [] [0, 1] [] [0, 1] rfl rfl rfl rfl (by decide) rfl rfl rfl ⟨rfl, rfl⟩ ⟨Nat.le_of_ble_eq_true rfl, Nat.le_of_ble_eq_true rfl⟩ (Nat.le_of_ble_eq_true rfl) rfl dX3_turnRound_88 ?_
            refine g_put (C := RX3) (T := TX3) (N := 5) (ty := .int) (ws' := [oO aP 0 [.int xP_walkers, .int xP_light, .int xP_water, .int xP_nerves, .int xP_kinds], oO aW 2 [.ref aP, .int z88, .int xW_quiets, .int xW_place, .int (xW_turned ||| ((1 : Int32) <<< (z24 &&& 31)))]]) hC tyX3_ok nmX3 hinX3 1 1 rfl rfl (by decide) (List.mem_of_getElem? (i := 2) rfl) rfl rfl rfl rfl (Nat.le_of_ble_eq_true rfl) dX3_turnRound_91 rfl ?_
            refine g_aload_n hC 2 dX3_turnRound_94 rfl rfl ?_
            refine g_iload_n hC 1 dX3_turnRound_95 rfl rfl ?_
            refine g_iconst (v := (0 : Int32)) hC dX3_turnRound_96 ci_0 ?_
            obtain ⟨z97, hz97, hf⟩ := gd_b hf
            refine g_callVv (wr := [oO aP 0 [.int xP_walkers, .int xP_light, .int xP_water, .int xP_nerves, .int xP_kinds]]) (wn := [oO aP 0 [.int xP_walkers, .int xP_light, .int xP_water, .int xP_nerves, .int xP_kinds], oO aW 2 [.ref aP, .int z88, .int z97, .int xW_place, .int (xW_turned ||| ((1 : Int32) <<< (z24 &&& 31)))]]) hC [.int z24, .int (0 : Int32)] (cX3_setQuiet_m (kl X) (kD X) aP aW z88 xW_quiets xW_place (xW_turned ||| ((1 : Int32) <<< (z24 &&& 31))) z24 (0 : Int32) z97 hz97) gX3_turnRound_X3_setQuiet rfl kyX3_setQuiet rfl rfl rfl (q0 := 0) rfl [1] [0] [] [0, 1] rfl rfl rfl rfl (by decide) rfl rfl rfl ⟨rfl, rfl⟩ ⟨Nat.le_of_ble_eq_true rfl, Nat.le_of_ble_eq_true rfl⟩ (Nat.le_of_ble_eq_true rfl) rfl dX3_turnRound_97 ?_
            refine g_lv (lv' := [(0, .ref aW), (1, .int (j1 ||| ((1 : Int32) <<< (z74 &&& 31)))), (2, .int j2)]) [2, 0, 3] rfl ?_
            exact t100 k9 hk9 (j1 ||| ((1 : Int32) <<< (z74 &&& 31))) j2 z88 z97 (xW_turned ||| ((1 : Int32) <<< (z24 &&& 31))) hf
  unfold fX3_turnRound at hf
  refine g_aload_n hC 0 dX3_turnRound_0 rfl rfl ?_
  refine g_iconst (v := (0 : Int32)) hC dX3_turnRound_1 ci_0 ?_
  refine g_put (C := RX3) (T := TX3) (N := 5) (ty := .int) (ws' := [oO aP 0 [.int xP_walkers, .int xP_light, .int xP_water, .int xP_nerves, .int xP_kinds], oO aW 2 [.ref aP, .int xW_row, .int xW_quiets, .int xW_place, .int (0 : Int32)]]) hC tyX3_ok nmX3 hinX3 1 4 rfl rfl (by decide) (List.mem_of_getElem? (i := 1) rfl) rfl rfl rfl rfl (Nat.le_of_ble_eq_true rfl) dX3_turnRound_2 rfl ?_
  refine g_iconst (v := (0 : Int32)) hC dX3_turnRound_5 ci_0 ?_
  refine g_istore_n (lv' := [(1, .int (0 : Int32)), (0, .ref aW)]) hC dX3_turnRound_6 rfl (by decide) rfl ?_
  refine g_iconst (v := (0 : Int32)) hC dX3_turnRound_7 ci_0 ?_
  refine g_istore_n (lv' := [(2, .int (0 : Int32)), (1, .int (0 : Int32)), (0, .ref aW)]) hC dX3_turnRound_8 rfl (by decide) rfl ?_
  refine g_lv (lv' := [(0, .ref aW), (1, .int (0 : Int32)), (2, .int (0 : Int32))]) [2, 1, 0] rfl ?_
  exact t9  fu (0 : Int32) (0 : Int32) xW_row xW_quiets (0 : Int32) hf
theorem kyX3_step : yX3_step.cls = RX3 ∧ yX3_step.cls ≠ "java/lang/invoke/MethodHandle" ∧ yX3_step.cls ≠ "java/lang/invoke/VarHandle" ∧ (parseMethodDescriptor yX3_step.desc).map (fun d => d.parameters.length) = some 1 := by decide +kernel
set_option maxHeartbeats 4000000 in
set_option maxRecDepth 100000 in
theorem cX3_step_m (l : Launch) (D : va_G) (aP aW : Nat) (xP_walkers : Int32) (xP_light : Int32) (xP_water : Int32) (xP_nerves : Int32) (xP_kinds : Int32) (xW_row : Int32) (xW_quiets : Int32) (xW_place : Int32) (xW_turned : Int32) (j1 : Int32) (z : Int32 × Int32 × Int32 × Int32 × Int32) (hf : fX3_step j1 xP_water xP_nerves xP_kinds xW_row xW_quiets xW_place xW_turned = some z) : ∀ sz : Nat, Met l yX3_step wsX3_step ({ frames := 3, cells := 0, slots := 0, locals := 67 } : Room) (kPre D [] [oO aP 0 [.int xP_walkers, .int xP_light, .int xP_water, .int xP_nerves, .int xP_kinds], oO aW 2 [.ref aP, .int xW_row, .int xW_quiets, .int xW_place, .int xW_turned]] sz [.ref aW, .int j1]) (kQi D [] [oO aP 0 [.int xP_walkers, .int xP_light, .int xP_water, .int xP_nerves, .int xP_kinds], oO aW 2 [.ref aP, .int xW_row, .int xW_quiets, .int xW_place, .int xW_turned]] sz [oO aP 0 [.int xP_walkers, .int xP_light, .int xP_water, .int xP_nerves, .int xP_kinds], oO aW 2 [.ref aP, .int z.2.1, .int z.2.2.1, .int z.2.2.2.1, .int z.2.2.2.2]] z.1) 0 0 (va_A [oO aP 0 [.int xP_walkers, .int xP_light, .int xP_water, .int xP_nerves, .int xP_kinds], oO aW 2 [.ref aP, .int xW_row, .int xW_quiets, .int xW_place, .int xW_turned]] sz) := by
  refine kMet_i (own := RX3) z (fun u => u.1) (fun u => [oO aP 0 [.int xP_walkers, .int xP_light, .int xP_water, .int xP_nerves, .int xP_kinds], oO aW 2 [.ref aP, .int u.2.1, .int u.2.2.1, .int u.2.2.2.1, .int u.2.2.2.2]]) rfl (by decide) rfl ⟨rfl, rfl⟩ (Nat.le_of_ble_eq_true rfl) ?_
  intro X hXl hXD hC hQ
  subst hXl
  subst hXD
  change kG X 0 [(0, .ref aW), (1, .int j1)] [] [oO aP 0 [.int xP_walkers, .int xP_light, .int xP_water, .int xP_nerves, .int xP_kinds], oO aW 2 [.ref aP, .int xW_row, .int xW_quiets, .int xW_place, .int xW_turned]]
  have hinX3 : ∀ w ∈ wsX30, w ∈ wsX3_step := fun _ h => List.mem_cons_of_mem _ (List.mem_append_left _ (List.mem_append_right _ h))
  have t76 : ∀ (k9 : Int32 → Int32 → Int32 → Int32 → Int32 → Int32 → Int32 → Option (Int32 × Int32 × Int32 × Int32 × Int32)) (hk9 : ∀ (j1 : Int32) (j2 : Int32) (j3 : Int32) (xW_row : Int32) (xW_quiets : Int32) (xW_place : Int32) (xW_turned : Int32), k9 j1 j2 j3 xW_row xW_quiets xW_place xW_turned = some z → kG X 9 [(0, .ref aW), (1, .int j1), (2, .int j2), (3, .int j3)] [] [oO aP 0 [.int xP_walkers, .int xP_light, .int xP_water, .int xP_nerves, .int xP_kinds], oO aW 2 [.ref aP, .int xW_row, .int xW_quiets, .int xW_place, .int xW_turned]]) (j1 : Int32) (j2 : Int32) (j3 : Int32) (y0 : Int32) (y1 : Int32) (xW_row : Int32) (xW_quiets : Int32) (xW_place : Int32) (xW_turned : Int32), fX3_step_b76 xP_water xP_nerves xP_kinds k9 j1 j2 j3 y0 y1 xW_row xW_quiets xW_place xW_turned = some z → kG X 76 [(0, .ref aW), (1, .int j1), (2, .int j2), (3, .int j3)] [.int y0, .int y1, .ref aW] [oO aP 0 [.int xP_walkers, .int xP_light, .int xP_water, .int xP_nerves, .int xP_kinds], oO aW 2 [.ref aP, .int xW_row, .int xW_quiets, .int xW_place, .int xW_turned]] := by
    intro k9 hk9 j1 j2 j3 y0 y1 xW_row xW_quiets xW_place xW_turned hf
    unfold fX3_step_b76 at hf
    obtain ⟨z76, hz76, hf⟩ := gd_b hf
    refine g_callVv (wr := [oO aP 0 [.int xP_walkers, .int xP_light, .int xP_water, .int xP_nerves, .int xP_kinds]]) (wn := [oO aP 0 [.int xP_walkers, .int xP_light, .int xP_water, .int xP_nerves, .int xP_kinds], oO aW 2 [.ref aP, .int xW_row, .int z76, .int xW_place, .int xW_turned]]) hC [.int y1, .int y0] (cX3_setQuiet_m (kl X) (kD X) aP aW xW_row xW_quiets xW_place xW_turned y1 y0 z76 hz76) gX3_step_X3_setQuiet rfl kyX3_setQuiet rfl rfl rfl (q0 := 0) rfl [1] [0] [] [0, 1] rfl rfl rfl rfl (by decide) rfl rfl rfl ⟨rfl, rfl⟩ ⟨Nat.le_of_ble_eq_true rfl, Nat.le_of_ble_eq_true rfl⟩ (Nat.le_of_ble_eq_true rfl) rfl dX3_step_76 ?_
    refine g_iinc (v := (j3 + (1 : Int32))) (lv' := [(3, .int (j3 + (1 : Int32))), (0, .ref aW), (1, .int j1), (2, .int j2)]) hC 3 dX3_step_79 rfl (ii _ ci_1) (by decide) rfl ?_
    refine g_goto (tgt := 9) hC dX3_step_82 (by decide) ?_
    refine g_lv (lv' := [(0, .ref aW), (1, .int j1), (2, .int j2), (3, .int (j3 + (1 : Int32)))]) [1, 2, 3, 0] rfl ?_
    exact hk9 j1 j2 (j3 + (1 : Int32)) xW_row z76 xW_place xW_turned hf
  have t54 : ∀ (k9 : Int32 → Int32 → Int32 → Int32 → Int32 → Int32 → Int32 → Option (Int32 × Int32 × Int32 × Int32 × Int32)) (hk9 : ∀ (j1 : Int32) (j2 : Int32) (j3 : Int32) (xW_row : Int32) (xW_quiets : Int32) (xW_place : Int32) (xW_turned : Int32), k9 j1 j2 j3 xW_row xW_quiets xW_place xW_turned = some z → kG X 9 [(0, .ref aW), (1, .int j1), (2, .int j2), (3, .int j3)] [] [oO aP 0 [.int xP_walkers, .int xP_light, .int xP_water, .int xP_nerves, .int xP_kinds], oO aW 2 [.ref aP, .int xW_row, .int xW_quiets, .int xW_place, .int xW_turned]]) (j1 : Int32) (j2 : Int32) (j3 : Int32) (j4 : Int32) (y0 : Int32) (xW_row : Int32) (xW_quiets : Int32) (xW_place : Int32) (xW_turned : Int32), fX3_step_b54 xP_water xP_nerves xP_kinds k9 j1 j2 j3 j4 y0 xW_row xW_quiets xW_place xW_turned = some z → kG X 54 [(0, .ref aW), (1, .int j1), (2, .int j2), (3, .int j3), (4, .int j4)] [.int y0] [oO aP 0 [.int xP_walkers, .int xP_light, .int xP_water, .int xP_nerves, .int xP_kinds], oO aW 2 [.ref aP, .int xW_row, .int xW_quiets, .int xW_place, .int xW_turned]] := by
    intro k9 hk9 j1 j2 j3 j4 y0 xW_row xW_quiets xW_place xW_turned hf
    unfold fX3_step_b54 at hf
    refine g_istore (lv' := [(5, .int y0), (0, .ref aW), (1, .int j1), (2, .int j2), (3, .int j3), (4, .int j4)]) hC dX3_step_54 (by decide) rfl ?_
    refine g_aload_n hC 1 dX3_step_56 rfl rfl ?_
    refine g_iload hC 5 dX3_step_57 rfl ?_
    refine g_iload hC 0 dX3_step_59 rfl ?_
    refine g_if_eq (tgt := 68) hC dX3_step_61 (by decide) (fun hc => ?_) (fun hc => ?_)
    · replace hf := gd_t hc hf
      refine g_aload_n hC 1 dX3_step_68 rfl rfl ?_
      refine g_iload hC 5 dX3_step_69 rfl ?_
      obtain ⟨z71, hz71, hf⟩ := gd_b hf
      refine g_callVi (wr := [oO aP 0 [.int xP_walkers, .int xP_light, .int xP_water, .int xP_nerves, .int xP_kinds]]) (wn := [oO aP 0 [.int xP_walkers, .int xP_light, .int xP_water, .int xP_nerves, .int xP_kinds], oO aW 2 [.ref aP, .int xW_row, .int xW_quiets, .int xW_place, .int xW_turned]]) hC [.int j4] (cX3_quiet_m (kl X) (kD X) aP aW xW_row xW_quiets xW_place xW_turned j4 z71 hz71) gX3_step_X3_quiet rfl kyX3_quiet rfl rfl rfl (q0 := 0) rfl [1] [0] [] [0, 1] rfl rfl rfl rfl (by decide) rfl rfl rfl ⟨rfl, rfl⟩ ⟨Nat.le_of_ble_eq_true rfl, Nat.le_of_ble_eq_true rfl⟩ (Nat.le_of_ble_eq_true rfl) rfl dX3_step_71 ?_
      refine g_iconst (v := (1 : Int32)) hC dX3_step_74 ci_1 ?_
      refine g_iadd hC dX3_step_75 ?_
      refine g_lv (lv' := [(0, .ref aW), (1, .int j1), (2, .int j2), (3, .int j3)]) [1, 2, 3, 4] rfl ?_
      exact t76 k9 hk9 j1 j2 j3 (z71 + (1 : Int32)) j4 xW_row xW_quiets xW_place xW_turned hf
    · replace hf := gd_f hc hf
      refine g_iconst (v := (0 : Int32)) hC dX3_step_64 ci_0 ?_
      refine g_goto (tgt := 76) hC dX3_step_65 (by decide) ?_
      refine g_lv (lv' := [(0, .ref aW), (1, .int j1), (2, .int j2), (3, .int j3)]) [1, 2, 3, 4] rfl ?_
      exact t76 k9 hk9 j1 j2 j3 (0 : Int32) j4 xW_row xW_quiets xW_place xW_turned hf
  have t53 : ∀ (k9 : Int32 → Int32 → Int32 → Int32 → Int32 → Int32 → Int32 → Option (Int32 × Int32 × Int32 × Int32 × Int32)) (hk9 : ∀ (j1 : Int32) (j2 : Int32) (j3 : Int32) (xW_row : Int32) (xW_quiets : Int32) (xW_place : Int32) (xW_turned : Int32), k9 j1 j2 j3 xW_row xW_quiets xW_place xW_turned = some z → kG X 9 [(0, .ref aW), (1, .int j1), (2, .int j2), (3, .int j3)] [] [oO aP 0 [.int xP_walkers, .int xP_light, .int xP_water, .int xP_nerves, .int xP_kinds], oO aW 2 [.ref aP, .int xW_row, .int xW_quiets, .int xW_place, .int xW_turned]]) (j1 : Int32) (j2 : Int32) (j3 : Int32) (j4 : Int32) (xW_row : Int32) (xW_quiets : Int32) (xW_place : Int32) (xW_turned : Int32), fX3_step_b53 xP_water xP_nerves xP_kinds k9 j1 j2 j3 j4 xW_row xW_quiets xW_place xW_turned = some z → kG X 53 [(0, .ref aW), (1, .int j1), (2, .int j2), (3, .int j3), (4, .int j4)] [] [oO aP 0 [.int xP_walkers, .int xP_light, .int xP_water, .int xP_nerves, .int xP_kinds], oO aW 2 [.ref aP, .int xW_row, .int xW_quiets, .int xW_place, .int xW_turned]] := by
    intro k9 hk9 j1 j2 j3 j4 xW_row xW_quiets xW_place xW_turned hf
    unfold fX3_step_b53 at hf
    refine g_iconst (v := (0 : Int32)) hC dX3_step_53 ci_0 ?_
    exact t54 k9 hk9 j1 j2 j3 j4 (0 : Int32) xW_row xW_quiets xW_place xW_turned hf
  have t9 : ∀  (n : Nat) (j1 : Int32) (j2 : Int32) (j3 : Int32) (xW_row : Int32) (xW_quiets : Int32) (xW_place : Int32) (xW_turned : Int32), lp (fun _ _ _ _ _ _ _ => none) (fX3_step_b9_S xP_water xP_nerves xP_kinds ) n j1 j2 j3 xW_row xW_quiets xW_place xW_turned = some z → kG X 9 [(0, .ref aW), (1, .int j1), (2, .int j2), (3, .int j3)] [] [oO aP 0 [.int xP_walkers, .int xP_light, .int xP_water, .int xP_nerves, .int xP_kinds], oO aW 2 [.ref aP, .int xW_row, .int xW_quiets, .int xW_place, .int xW_turned]] := by
    intro  n
    induction n with
    | zero => intro j1 j2 j3 xW_row xW_quiets xW_place xW_turned hf; cases hf
    | succ n hk9 =>
      intro j1 j2 j3 xW_row xW_quiets xW_place xW_turned hf
      rw [lp_s] at hf
      revert hf hk9
      generalize lp (fun _ _ _ _ _ _ _ => none) (fX3_step_b9_S xP_water xP_nerves xP_kinds ) n = k9
      intro hk9 hf
      unfold fX3_step_b9_S at hf
      refine g_iload_n hC 3 dX3_step_9 rfl rfl ?_
      refine g_iload_n hC 2 dX3_step_10 rfl rfl ?_
      refine g_icmp_ge (tgt := 85) hC dX3_step_11 (by decide) (fun hc => ?_) (fun hc => ?_)
      · replace hf := gd_t hc hf
        refine g_aload_n hC 0 dX3_step_85 rfl rfl ?_
        obtain ⟨z86, hz86, hf⟩ := gd_b hf
        refine g_callVi (wr := []) (wn := [oO aP 0 [.int xP_walkers, .int xP_light, .int xP_water, .int xP_nerves, .int xP_kinds], oO aW 2 [.ref aP, .int z86.2.1, .int z86.2.2.1, .int xW_place, .int z86.2.2.2]]) hC [] (cX3_turnRound_m (kl X) (kD X) aP aW xP_walkers xP_light xP_water xP_nerves xP_kinds xW_row xW_quiets xW_place xW_turned z86 hz86) gX3_step_X3_turnRound rfl kyX3_turnRound rfl rfl rfl (q0 := 1) rfl [0, 1] [] [] [0, 1] rfl rfl rfl rfl (by decide) rfl rfl rfl ⟨rfl, rfl⟩ ⟨Nat.le_of_ble_eq_true rfl, Nat.le_of_ble_eq_true rfl⟩ (Nat.le_of_ble_eq_true rfl) rfl dX3_step_86 ?_
        refine g_istore_n (lv' := [(3, .int z86.1), (0, .ref aW), (1, .int j1), (2, .int j2)]) hC dX3_step_89 rfl (by decide) rfl ?_
        refine g_aload_n hC 1 dX3_step_90 rfl rfl ?_
        refine g_dup hC dX3_step_91 rfl ?_
        refine g_get (C := RX3) (T := TX3) (N := 5) (v := .int xW_place) hC hinX3 1 3 rfl rfl (by decide) (List.mem_of_getElem? (i := 2) rfl) rfl dX3_step_92 ?_
        refine g_iconst (v := (1 : Int32)) hC dX3_step_95 ci_1 ?_
        refine g_iadd hC dX3_step_96 ?_
        refine g_put (C := RX3) (T := TX3) (N := 5) (ty := .int) (ws' := [oO aP 0 [.int xP_walkers, .int xP_light, .int xP_water, .int xP_nerves, .int xP_kinds], oO aW 2 [.ref aP, .int z86.2.1, .int z86.2.2.1, .int (xW_place + (1 : Int32)), .int z86.2.2.2]]) hC tyX3_ok nmX3 hinX3 1 3 rfl rfl (by decide) (List.mem_of_getElem? (i := 2) rfl) rfl rfl rfl rfl (Nat.le_of_ble_eq_true rfl) dX3_step_97 rfl ?_
        refine g_iload_n hC 0 dX3_step_100 rfl rfl ?_
        exact hQ (z86.1, z86.2.1, z86.2.2.1, (xW_place + (1 : Int32)), z86.2.2.2) _ _ (gd_s hf) dX3_step_101
      · replace hf := gd_f hc hf
        refine g_aload_n hC 0 dX3_step_14 rfl rfl ?_
        refine g_iload_n hC 3 dX3_step_15 rfl rfl ?_
        obtain ⟨z16, hz16, hf⟩ := gd_b hf
        refine g_callVi (wr := [oO aP 0 [.int xP_walkers, .int xP_light, .int xP_water, .int xP_nerves, .int xP_kinds]]) (wn := [oO aP 0 [.int xP_walkers, .int xP_light, .int xP_water, .int xP_nerves, .int xP_kinds], oO aW 2 [.ref aP, .int xW_row, .int xW_quiets, .int xW_place, .int xW_turned]]) hC [.int j3] (cX3_walkerAt_m (kl X) (kD X) aP aW xW_row xW_quiets xW_place xW_turned j3 z16 hz16) gX3_step_X3_walkerAt rfl kyX3_walkerAt rfl rfl rfl (q0 := 0) rfl [1] [0] [] [0, 1] rfl rfl rfl rfl (by decide) rfl rfl rfl ⟨rfl, rfl⟩ ⟨Nat.le_of_ble_eq_true rfl, Nat.le_of_ble_eq_true rfl⟩ (Nat.le_of_ble_eq_true rfl) rfl dX3_step_16 ?_
        refine g_istore (lv' := [(4, .int z16), (0, .ref aW), (1, .int j1), (2, .int j2), (3, .int j3)]) hC dX3_step_19 (by decide) rfl ?_
        refine g_aload_n hC 1 dX3_step_21 rfl rfl ?_
        refine g_get (C := RX3) (T := TX3) (N := 5) (v := .ref aP) hC hinX3 1 0 rfl rfl (by decide) (List.mem_of_getElem? (i := 1) rfl) rfl dX3_step_22 ?_
        refine g_iload hC 0 dX3_step_25 rfl ?_
        obtain ⟨z27, hz27, hf⟩ := gd_b hf
        refine g_callVi (wr := [oO aW 2 [.ref aP, .int xW_row, .int xW_quiets, .int xW_place, .int xW_turned]]) (wn := [oO aP 0 [.int xP_walkers, .int xP_light, .int xP_water, .int xP_nerves, .int xP_kinds], oO aW 2 [.ref aP, .int xW_row, .int xW_quiets, .int xW_place, .int xW_turned]]) hC [.int z16] (cX1_kind_m (kl X) (kD X) aP xP_walkers xP_light xP_water xP_nerves xP_kinds z16 z27 hz27) gX3_step_X1_kind rfl kyX1_kind rfl rfl rfl (q0 := 0) rfl [0] [1] [] [1, 0] rfl rfl rfl rfl (by decide) rfl rfl rfl ⟨rfl, rfl⟩ ⟨Nat.le_of_ble_eq_true rfl, Nat.le_of_ble_eq_true rfl⟩ (Nat.le_of_ble_eq_true rfl) rfl dX3_step_27 ?_
        refine g_iconst (v := (1 : Int32)) hC dX3_step_30 ci_1 ?_
        refine g_icmp_eq (tgt := 53) hC dX3_step_31 (by decide) (fun hc => ?_) (fun hc => ?_)
        · replace hf := gd_t hc hf
          refine g_lv (lv' := [(0, .ref aW), (1, .int j1), (2, .int j2), (3, .int j3), (4, .int z16)]) [1, 2, 3, 4, 0] rfl ?_
          exact t53 k9 hk9 j1 j2 j3 z16 xW_row xW_quiets xW_place xW_turned hf
        · replace hf := gd_f hc hf
          refine g_aload_n hC 1 dX3_step_34 rfl rfl ?_
          refine g_aload_n hC 1 dX3_step_35 rfl rfl ?_
          refine g_iload_n hC 4 dX3_step_36 rfl rfl ?_
          refine g_iconst (v := (1 : Int32)) hC dX3_step_37 ci_1 ?_
          refine g_iadd hC dX3_step_38 ?_
          obtain ⟨z39, hz39, hf⟩ := gd_b hf
          refine g_callVi (wr := [oO aP 0 [.int xP_walkers, .int xP_light, .int xP_water, .int xP_nerves, .int xP_kinds]]) (wn := [oO aP 0 [.int xP_walkers, .int xP_light, .int xP_water, .int xP_nerves, .int xP_kinds], oO aW 2 [.ref aP, .int xW_row, .int xW_quiets, .int xW_place, .int xW_turned]]) hC [.int (j3 + (1 : Int32))] (cX3_walkerAt_m (kl X) (kD X) aP aW xW_row xW_quiets xW_place xW_turned (j3 + (1 : Int32)) z39 hz39) gX3_step_X3_walkerAt rfl kyX3_walkerAt rfl rfl rfl (q0 := 0) rfl [1] [0] [] [0, 1] rfl rfl rfl rfl (by decide) rfl rfl rfl ⟨rfl, rfl⟩ ⟨Nat.le_of_ble_eq_true rfl, Nat.le_of_ble_eq_true rfl⟩ (Nat.le_of_ble_eq_true rfl) rfl dX3_step_39 ?_
          refine g_iload_n hC 2 dX3_step_42 rfl rfl ?_
          obtain ⟨z43, hz43, hf⟩ := gd_b hf
          refine g_callVi (wr := []) (wn := [oO aP 0 [.int xP_walkers, .int xP_light, .int xP_water, .int xP_nerves, .int xP_kinds], oO aW 2 [.ref aP, .int xW_row, .int xW_quiets, .int xW_place, .int xW_turned]]) hC [.int z39, .int j1] (cX3_isHeard_m (kl X) (kD X) aP aW xP_walkers xP_light xP_water xP_nerves xP_kinds xW_row xW_quiets xW_place xW_turned z39 j1 z43 hz43) gX3_step_X3_isHeard rfl kyX3_isHeard rfl rfl rfl (q0 := 1) rfl [0, 1] [] [] [0, 1] rfl rfl rfl rfl (by decide) rfl rfl rfl ⟨rfl, rfl⟩ ⟨Nat.le_of_ble_eq_true rfl, Nat.le_of_ble_eq_true rfl⟩ (Nat.le_of_ble_eq_true rfl) rfl dX3_step_43 ?_
          refine g_if_eq (tgt := 53) hC dX3_step_46 (by decide) (fun hc => ?_) (fun hc => ?_)
          · replace hf := gd_t hc hf
            refine g_lv (lv' := [(0, .ref aW), (1, .int j1), (2, .int j2), (3, .int j3), (4, .int z16)]) [1, 2, 3, 4, 0] rfl ?_
            exact t53 k9 hk9 j1 j2 j3 z16 xW_row xW_quiets xW_place xW_turned hf
          · replace hf := gd_f hc hf
            refine g_iconst (v := (1 : Int32)) hC dX3_step_49 ci_1 ?_
            refine g_goto (tgt := 54) hC dX3_step_50 (by decide) ?_
            refine g_lv (lv' := [(0, .ref aW), (1, .int j1), (2, .int j2), (3, .int j3), (4, .int z16)]) [1, 2, 3, 4, 0] rfl ?_
            exact t54 k9 hk9 j1 j2 j3 z16 (1 : Int32) xW_row xW_quiets xW_place xW_turned hf
  unfold fX3_step at hf
  refine g_aload_n hC 0 dX3_step_0 rfl rfl ?_
  obtain ⟨z1, hz1, hf⟩ := gd_b hf
  refine g_callVi (wr := [oO aP 0 [.int xP_walkers, .int xP_light, .int xP_water, .int xP_nerves, .int xP_kinds]]) (wn := [oO aP 0 [.int xP_walkers, .int xP_light, .int xP_water, .int xP_nerves, .int xP_kinds], oO aW 2 [.ref aP, .int xW_row, .int xW_quiets, .int xW_place, .int xW_turned]]) hC [] (cX3_size_m (kl X) (kD X) aP aW xW_row xW_quiets xW_place xW_turned z1 hz1) gX3_step_X3_size rfl kyX3_size rfl rfl rfl (q0 := 0) rfl [1] [0] [] [0, 1] rfl rfl rfl rfl (by decide) rfl rfl rfl ⟨rfl, rfl⟩ ⟨Nat.le_of_ble_eq_true rfl, Nat.le_of_ble_eq_true rfl⟩ (Nat.le_of_ble_eq_true rfl) rfl dX3_step_1 ?_
  refine g_iconst (v := (1 : Int32)) hC dX3_step_4 ci_1 ?_
  refine g_isub hC dX3_step_5 ?_
  refine g_istore_n (lv' := [(2, .int (z1 - (1 : Int32))), (0, .ref aW), (1, .int j1)]) hC dX3_step_6 rfl (by decide) rfl ?_
  refine g_iconst (v := (0 : Int32)) hC dX3_step_7 ci_0 ?_
  refine g_istore_n (lv' := [(3, .int (0 : Int32)), (2, .int (z1 - (1 : Int32))), (0, .ref aW), (1, .int j1)]) hC dX3_step_8 rfl (by decide) rfl ?_
  refine g_lv (lv' := [(0, .ref aW), (1, .int j1), (2, .int (z1 - (1 : Int32))), (3, .int (0 : Int32))]) [2, 3, 1, 0] rfl ?_
  exact t9  fu j1 (z1 - (1 : Int32)) (0 : Int32) xW_row xW_quiets xW_place xW_turned hf
theorem kyX3_changePlaces : yX3_changePlaces.cls = RX3 ∧ yX3_changePlaces.cls ≠ "java/lang/invoke/MethodHandle" ∧ yX3_changePlaces.cls ≠ "java/lang/invoke/VarHandle" ∧ (parseMethodDescriptor yX3_changePlaces.desc).map (fun d => d.parameters.length) = some 1 := by decide +kernel
set_option maxHeartbeats 4000000 in
set_option maxRecDepth 100000 in
theorem cX3_changePlaces_m (l : Launch) (D : va_G) (aP aW : Nat) (xW_row : Int32) (xW_quiets : Int32) (xW_place : Int32) (xW_turned : Int32) (j1 : Int32) (z : Int32 × Int32) (hf : fX3_changePlaces j1 xW_row xW_quiets = some z) : ∀ sz : Nat, Met l yX3_changePlaces wsX3_changePlaces ({ frames := 2, cells := 0, slots := 0, locals := 44 } : Room) (kPre D [] [oO aW 2 [.ref aP, .int xW_row, .int xW_quiets, .int xW_place, .int xW_turned]] sz [.ref aW, .int j1]) (kQv D [] [oO aW 2 [.ref aP, .int xW_row, .int xW_quiets, .int xW_place, .int xW_turned]] sz [oO aW 2 [.ref aP, .int z.1, .int z.2, .int xW_place, .int xW_turned]]) 0 0 (va_A [oO aW 2 [.ref aP, .int xW_row, .int xW_quiets, .int xW_place, .int xW_turned]] sz) := by
  refine kMet_v (own := RX3) z (fun u => [oO aW 2 [.ref aP, .int u.1, .int u.2, .int xW_place, .int xW_turned]]) rfl (by decide) rfl ⟨rfl, rfl⟩ (Nat.le_of_ble_eq_true rfl) ?_
  intro X hXl hXD hC hQ
  subst hXl
  subst hXD
  change kG X 0 [(0, .ref aW), (1, .int j1)] [] [oO aW 2 [.ref aP, .int xW_row, .int xW_quiets, .int xW_place, .int xW_turned]]
  have hinX3 : ∀ w ∈ wsX30, w ∈ wsX3_changePlaces := fun _ h => List.mem_cons_of_mem _ (List.mem_append_right _ h)
  unfold fX3_changePlaces at hf
  refine g_aload_n hC 0 dX3_changePlaces_0 rfl rfl ?_
  refine g_aload_n hC 0 dX3_changePlaces_1 rfl rfl ?_
  refine g_get (C := RX3) (T := TX3) (N := 5) (v := .int xW_row) hC hinX3 0 1 rfl rfl (by decide) (List.mem_of_getElem? (i := 1) rfl) rfl dX3_changePlaces_2 ?_
  refine g_iload_n hC 1 dX3_changePlaces_5 rfl rfl ?_
  refine g_iload_n hC 1 dX3_changePlaces_6 rfl rfl ?_
  refine g_iconst (v := (1 : Int32)) hC dX3_changePlaces_7 ci_1 ?_
  refine g_iadd hC dX3_changePlaces_8 ?_
  obtain ⟨z9, hz9, hf⟩ := gd_b hf
  refine g_callSi (wr := [oO aW 2 [.ref aP, .int xW_row, .int xW_quiets, .int xW_place, .int xW_turned]]) (wn := [oO aW 2 [.ref aP, .int xW_row, .int xW_quiets, .int xW_place, .int xW_turned]]) hC [.int xW_row, .int j1, .int (j1 + (1 : Int32))] (cX0_swapped_m (kl X) (kD X) xW_row j1 (j1 + (1 : Int32)) z9 hz9) gX3_changePlaces_X0_swapped rfl kyX0_swapped rfl [] [0] [] [0] rfl rfl rfl rfl (by decide) rfl rfl rfl ⟨rfl, rfl⟩ ⟨Nat.le_of_ble_eq_true rfl, Nat.le_of_ble_eq_true rfl⟩ (Nat.le_of_ble_eq_true rfl) rfl dX3_changePlaces_9 ?_
  refine g_put (C := RX3) (T := TX3) (N := 5) (ty := .int) (ws' := [oO aW 2 [.ref aP, .int z9, .int xW_quiets, .int xW_place, .int xW_turned]]) hC tyX3_ok nmX3 hinX3 0 1 rfl rfl (by decide) (List.mem_of_getElem? (i := 1) rfl) rfl rfl rfl rfl (Nat.le_of_ble_eq_true rfl) dX3_changePlaces_12 rfl ?_
  refine g_aload_n hC 0 dX3_changePlaces_15 rfl rfl ?_
  refine g_aload_n hC 0 dX3_changePlaces_16 rfl rfl ?_
  refine g_iload_n hC 1 dX3_changePlaces_17 rfl rfl ?_
  obtain ⟨z18, hz18, hf⟩ := gd_b hf
  refine g_callVi (wr := []) (wn := [oO aW 2 [.ref aP, .int z9, .int xW_quiets, .int xW_place, .int xW_turned]]) hC [.int j1] (cX3_walkerAt_m (kl X) (kD X) aP aW z9 xW_quiets xW_place xW_turned j1 z18 hz18) gX3_changePlaces_X3_walkerAt rfl kyX3_walkerAt rfl rfl rfl (q0 := 0) rfl [0] [] [] [0] rfl rfl rfl rfl (by decide) rfl rfl rfl ⟨rfl, rfl⟩ ⟨Nat.le_of_ble_eq_true rfl, Nat.le_of_ble_eq_true rfl⟩ (Nat.le_of_ble_eq_true rfl) rfl dX3_changePlaces_18 ?_
  refine g_iconst (v := (0 : Int32)) hC dX3_changePlaces_21 ci_0 ?_
  obtain ⟨z22, hz22, hf⟩ := gd_b hf
  refine g_callVv (wr := []) (wn := [oO aW 2 [.ref aP, .int z9, .int z22, .int xW_place, .int xW_turned]]) hC [.int z18, .int (0 : Int32)] (cX3_setQuiet_m (kl X) (kD X) aP aW z9 xW_quiets xW_place xW_turned z18 (0 : Int32) z22 hz22) gX3_changePlaces_X3_setQuiet rfl kyX3_setQuiet rfl rfl rfl (q0 := 0) rfl [0] [] [] [0] rfl rfl rfl rfl (by decide) rfl rfl rfl ⟨rfl, rfl⟩ ⟨Nat.le_of_ble_eq_true rfl, Nat.le_of_ble_eq_true rfl⟩ (Nat.le_of_ble_eq_true rfl) rfl dX3_changePlaces_22 ?_
  refine g_aload_n hC 0 dX3_changePlaces_25 rfl rfl ?_
  refine g_aload_n hC 0 dX3_changePlaces_26 rfl rfl ?_
  refine g_iload_n hC 1 dX3_changePlaces_27 rfl rfl ?_
  refine g_iconst (v := (1 : Int32)) hC dX3_changePlaces_28 ci_1 ?_
  refine g_iadd hC dX3_changePlaces_29 ?_
  obtain ⟨z30, hz30, hf⟩ := gd_b hf
  refine g_callVi (wr := []) (wn := [oO aW 2 [.ref aP, .int z9, .int z22, .int xW_place, .int xW_turned]]) hC [.int (j1 + (1 : Int32))] (cX3_walkerAt_m (kl X) (kD X) aP aW z9 z22 xW_place xW_turned (j1 + (1 : Int32)) z30 hz30) gX3_changePlaces_X3_walkerAt rfl kyX3_walkerAt rfl rfl rfl (q0 := 0) rfl [0] [] [] [0] rfl rfl rfl rfl (by decide) rfl rfl rfl ⟨rfl, rfl⟩ ⟨Nat.le_of_ble_eq_true rfl, Nat.le_of_ble_eq_true rfl⟩ (Nat.le_of_ble_eq_true rfl) rfl dX3_changePlaces_30 ?_
  refine g_iconst (v := (0 : Int32)) hC dX3_changePlaces_33 ci_0 ?_
  obtain ⟨z34, hz34, hf⟩ := gd_b hf
  refine g_callVv (wr := []) (wn := [oO aW 2 [.ref aP, .int z9, .int z34, .int xW_place, .int xW_turned]]) hC [.int z30, .int (0 : Int32)] (cX3_setQuiet_m (kl X) (kD X) aP aW z9 z22 xW_place xW_turned z30 (0 : Int32) z34 hz34) gX3_changePlaces_X3_setQuiet rfl kyX3_setQuiet rfl rfl rfl (q0 := 0) rfl [0] [] [] [0] rfl rfl rfl rfl (by decide) rfl rfl rfl ⟨rfl, rfl⟩ ⟨Nat.le_of_ble_eq_true rfl, Nat.le_of_ble_eq_true rfl⟩ (Nat.le_of_ble_eq_true rfl) rfl dX3_changePlaces_34 ?_
  exact hQ (z9, z34) _ _ (gd_s hf) dX3_changePlaces_37
theorem kyX3_calm : yX3_calm.cls = RX3 ∧ yX3_calm.cls ≠ "java/lang/invoke/MethodHandle" ∧ yX3_calm.cls ≠ "java/lang/invoke/VarHandle" ∧ (parseMethodDescriptor yX3_calm.desc).map (fun d => d.parameters.length) = some 0 := by decide +kernel
set_option maxHeartbeats 4000000 in
set_option maxRecDepth 100000 in
theorem cX3_calm_m (l : Launch) (D : va_G) (aP aW : Nat) (xW_row : Int32) (xW_quiets : Int32) (xW_place : Int32) (xW_turned : Int32)  (z : Int32 × Int32) (hf : fX3_calm xW_row xW_quiets = some z) : ∀ sz : Nat, Met l yX3_calm wsX3_calm ({ frames := 3, cells := 0, slots := 0, locals := 62 } : Room) (kPre D [] [oO aW 2 [.ref aP, .int xW_row, .int xW_quiets, .int xW_place, .int xW_turned]] sz [.ref aW]) (kQi D [] [oO aW 2 [.ref aP, .int xW_row, .int xW_quiets, .int xW_place, .int xW_turned]] sz [oO aW 2 [.ref aP, .int xW_row, .int z.2, .int xW_place, .int xW_turned]] z.1) 0 0 (va_A [oO aW 2 [.ref aP, .int xW_row, .int xW_quiets, .int xW_place, .int xW_turned]] sz) := by
  refine kMet_i (own := RX3) z (fun u => u.1) (fun u => [oO aW 2 [.ref aP, .int xW_row, .int u.2, .int xW_place, .int xW_turned]]) rfl (by decide) rfl ⟨rfl, rfl⟩ (Nat.le_of_ble_eq_true rfl) ?_
  intro X hXl hXD hC hQ
  subst hXl
  subst hXD
  change kG X 0 [(0, .ref aW)] [] [oO aW 2 [.ref aP, .int xW_row, .int xW_quiets, .int xW_place, .int xW_turned]]
  have t37 : ∀ (k4 : Int32 → Int32 → Int32 → Option (Int32 × Int32)) (hk4 : ∀ (j1 : Int32) (j2 : Int32) (xW_quiets : Int32), k4 j1 j2 xW_quiets = some z → kG X 4 [(0, .ref aW), (1, .int j1), (2, .int j2)] [] [oO aW 2 [.ref aP, .int xW_row, .int xW_quiets, .int xW_place, .int xW_turned]]) (j1 : Int32) (j2 : Int32) (xW_quiets : Int32), fX3_calm_b37 xW_row k4 j1 j2 xW_quiets = some z → kG X 37 [(0, .ref aW), (1, .int j1), (2, .int j2)] [] [oO aW 2 [.ref aP, .int xW_row, .int xW_quiets, .int xW_place, .int xW_turned]] := by
    intro k4 hk4 j1 j2 xW_quiets hf
    unfold fX3_calm_b37 at hf
    refine g_iinc (v := (j2 + (1 : Int32))) (lv' := [(2, .int (j2 + (1 : Int32))), (0, .ref aW), (1, .int j1)]) hC 2 dX3_calm_37 rfl (ii _ ci_1) (by decide) rfl ?_
    refine g_goto (tgt := 4) hC dX3_calm_40 (by decide) ?_
    refine g_lv (lv' := [(0, .ref aW), (1, .int j1), (2, .int (j2 + (1 : Int32)))]) [1, 2, 0] rfl ?_
    exact hk4 j1 (j2 + (1 : Int32)) xW_quiets hf
  have t4 : ∀  (n : Nat) (j1 : Int32) (j2 : Int32) (xW_quiets : Int32), lp (fun _ _ _ => none) (fX3_calm_b4_S xW_row ) n j1 j2 xW_quiets = some z → kG X 4 [(0, .ref aW), (1, .int j1), (2, .int j2)] [] [oO aW 2 [.ref aP, .int xW_row, .int xW_quiets, .int xW_place, .int xW_turned]] := by
    intro  n
    induction n with
    | zero => intro j1 j2 xW_quiets hf; cases hf
    | succ n hk4 =>
      intro j1 j2 xW_quiets hf
      rw [lp_s] at hf
      revert hf hk4
      generalize lp (fun _ _ _ => none) (fX3_calm_b4_S xW_row ) n = k4
      intro hk4 hf
      unfold fX3_calm_b4_S at hf
      refine g_iload_n hC 2 dX3_calm_4 rfl rfl ?_
      refine g_aload_n hC 0 dX3_calm_5 rfl rfl ?_
      obtain ⟨z6, hz6, hf⟩ := gd_b hf
      refine g_callVi (wr := []) (wn := [oO aW 2 [.ref aP, .int xW_row, .int xW_quiets, .int xW_place, .int xW_turned]]) hC [] (cX3_size_m (kl X) (kD X) aP aW xW_row xW_quiets xW_place xW_turned z6 hz6) gX3_calm_X3_size rfl kyX3_size rfl rfl rfl (q0 := 0) rfl [0] [] [] [0] rfl rfl rfl rfl (by decide) rfl rfl rfl ⟨rfl, rfl⟩ ⟨Nat.le_of_ble_eq_true rfl, Nat.le_of_ble_eq_true rfl⟩ (Nat.le_of_ble_eq_true rfl) rfl dX3_calm_6 ?_
      refine g_icmp_ge (tgt := 43) hC dX3_calm_9 (by decide) (fun hc => ?_) (fun hc => ?_)
      · replace hf := gd_t hc hf
        refine g_iload_n hC 1 dX3_calm_43 rfl rfl ?_
        exact hQ (j1, xW_quiets) _ _ (gd_s hf) dX3_calm_44
      · replace hf := gd_f hc hf
        refine g_aload_n hC 0 dX3_calm_12 rfl rfl ?_
        refine g_aload_n hC 0 dX3_calm_13 rfl rfl ?_
        refine g_iload_n hC 2 dX3_calm_14 rfl rfl ?_
        obtain ⟨z15, hz15, hf⟩ := gd_b hf
        refine g_callVi (wr := []) (wn := [oO aW 2 [.ref aP, .int xW_row, .int xW_quiets, .int xW_place, .int xW_turned]]) hC [.int j2] (cX3_walkerAt_m (kl X) (kD X) aP aW xW_row xW_quiets xW_place xW_turned j2 z15 hz15) gX3_calm_X3_walkerAt rfl kyX3_walkerAt rfl rfl rfl (q0 := 0) rfl [0] [] [] [0] rfl rfl rfl rfl (by decide) rfl rfl rfl ⟨rfl, rfl⟩ ⟨Nat.le_of_ble_eq_true rfl, Nat.le_of_ble_eq_true rfl⟩ (Nat.le_of_ble_eq_true rfl) rfl dX3_calm_15 ?_
        obtain ⟨z18, hz18, hf⟩ := gd_b hf
        refine g_callVi (wr := []) (wn := [oO aW 2 [.ref aP, .int xW_row, .int xW_quiets, .int xW_place, .int xW_turned]]) hC [.int z15] (cX3_quiet_m (kl X) (kD X) aP aW xW_row xW_quiets xW_place xW_turned z15 z18 hz18) gX3_calm_X3_quiet rfl kyX3_quiet rfl rfl rfl (q0 := 0) rfl [0] [] [] [0] rfl rfl rfl rfl (by decide) rfl rfl rfl ⟨rfl, rfl⟩ ⟨Nat.le_of_ble_eq_true rfl, Nat.le_of_ble_eq_true rfl⟩ (Nat.le_of_ble_eq_true rfl) rfl dX3_calm_18 ?_
        refine g_if_le (tgt := 37) hC dX3_calm_21 (by decide) (fun hc => ?_) (fun hc => ?_)
        · replace hf := gd_t hc hf
          exact t37 k4 hk4 j1 j2 xW_quiets hf
        · replace hf := gd_f hc hf
          refine g_iinc (v := (j1 + (1 : Int32))) (lv' := [(1, .int (j1 + (1 : Int32))), (0, .ref aW), (2, .int j2)]) hC 1 dX3_calm_24 rfl (ii _ ci_1) (by decide) rfl ?_
          refine g_aload_n hC 1 dX3_calm_27 rfl rfl ?_
          refine g_aload_n hC 1 dX3_calm_28 rfl rfl ?_
          refine g_iload_n hC 2 dX3_calm_29 rfl rfl ?_
          obtain ⟨z30, hz30, hf⟩ := gd_b hf
          refine g_callVi (wr := []) (wn := [oO aW 2 [.ref aP, .int xW_row, .int xW_quiets, .int xW_place, .int xW_turned]]) hC [.int j2] (cX3_walkerAt_m (kl X) (kD X) aP aW xW_row xW_quiets xW_place xW_turned j2 z30 hz30) gX3_calm_X3_walkerAt rfl kyX3_walkerAt rfl rfl rfl (q0 := 0) rfl [0] [] [] [0] rfl rfl rfl rfl (by decide) rfl rfl rfl ⟨rfl, rfl⟩ ⟨Nat.le_of_ble_eq_true rfl, Nat.le_of_ble_eq_true rfl⟩ (Nat.le_of_ble_eq_true rfl) rfl dX3_calm_30 ?_
          refine g_iconst (v := (0 : Int32)) hC dX3_calm_33 ci_0 ?_
          obtain ⟨z34, hz34, hf⟩ := gd_b hf
          refine g_callVv (wr := []) (wn := [oO aW 2 [.ref aP, .int xW_row, .int z34, .int xW_place, .int xW_turned]]) hC [.int z30, .int (0 : Int32)] (cX3_setQuiet_m (kl X) (kD X) aP aW xW_row xW_quiets xW_place xW_turned z30 (0 : Int32) z34 hz34) gX3_calm_X3_setQuiet rfl kyX3_setQuiet rfl rfl rfl (q0 := 0) rfl [0] [] [] [0] rfl rfl rfl rfl (by decide) rfl rfl rfl ⟨rfl, rfl⟩ ⟨Nat.le_of_ble_eq_true rfl, Nat.le_of_ble_eq_true rfl⟩ (Nat.le_of_ble_eq_true rfl) rfl dX3_calm_34 ?_
          refine g_lv (lv' := [(0, .ref aW), (1, .int (j1 + (1 : Int32))), (2, .int j2)]) [1, 0, 2] rfl ?_
          exact t37 k4 hk4 (j1 + (1 : Int32)) j2 z34 hf
  unfold fX3_calm at hf
  refine g_iconst (v := (0 : Int32)) hC dX3_calm_0 ci_0 ?_
  refine g_istore_n (lv' := [(1, .int (0 : Int32)), (0, .ref aW)]) hC dX3_calm_1 rfl (by decide) rfl ?_
  refine g_iconst (v := (0 : Int32)) hC dX3_calm_2 ci_0 ?_
  refine g_istore_n (lv' := [(2, .int (0 : Int32)), (1, .int (0 : Int32)), (0, .ref aW)]) hC dX3_calm_3 rfl (by decide) rfl ?_
  refine g_lv (lv' := [(0, .ref aW), (1, .int (0 : Int32)), (2, .int (0 : Int32))]) [2, 1, 0] rfl ?_
  exact t4  fu (0 : Int32) (0 : Int32) xW_quiets hf
theorem kyX3_become : yX3_become.cls = RX3 ∧ yX3_become.cls ≠ "java/lang/invoke/MethodHandle" ∧ yX3_become.cls ≠ "java/lang/invoke/VarHandle" ∧ (parseMethodDescriptor yX3_become.desc).map (fun d => d.parameters.length) = some 1 := by decide +kernel
set_option maxHeartbeats 4000000 in
set_option maxRecDepth 100000 in
theorem cX3_become_m (l : Launch) (D : va_G) (aP aW : Nat) (xW_row : Int32) (xW_quiets : Int32) (xW_place : Int32) (xW_turned : Int32) (j1 : Int64) (z : Int32 × Int32 × Int32) (hf : fX3_become j1 xW_row xW_quiets xW_place = some z) : ∀ sz : Nat, Met l yX3_become wsX3_become ({ frames := 0, cells := 0, slots := 0, locals := 0 } : Room) (kPre D [] [oO aW 2 [.ref aP, .int xW_row, .int xW_quiets, .int xW_place, .int xW_turned]] sz [.ref aW, .long j1]) (kQv D [] [oO aW 2 [.ref aP, .int xW_row, .int xW_quiets, .int xW_place, .int xW_turned]] sz [oO aW 2 [.ref aP, .int z.1, .int z.2.1, .int z.2.2, .int xW_turned]]) 0 0 (va_A [oO aW 2 [.ref aP, .int xW_row, .int xW_quiets, .int xW_place, .int xW_turned]] sz) := by
  refine kMet_v (own := RX3) z (fun u => [oO aW 2 [.ref aP, .int u.1, .int u.2.1, .int u.2.2, .int xW_turned]]) rfl (by decide) rfl ⟨rfl, rfl⟩ (Nat.le_of_ble_eq_true rfl) ?_
  intro X hXl hXD hC hQ
  subst hXl
  subst hXD
  change kG X 0 [(0, .ref aW), (1, .long j1)] [] [oO aW 2 [.ref aP, .int xW_row, .int xW_quiets, .int xW_place, .int xW_turned]]
  have hinX3 : ∀ w ∈ wsX30, w ∈ wsX3_become := fun _ h => List.mem_cons_of_mem _ (List.mem_append_right _ h)
  unfold fX3_become at hf
  refine g_aload_n hC 0 dX3_become_0 rfl rfl ?_
  refine g_lload_n hC 1 dX3_become_1 rfl rfl ?_
  refine g_l2i hC dX3_become_2 ?_
  refine g_ldc (v := (1048575 : Int32)) hC dX3_become_3 (List.mem_of_getElem? (i := 1) rfl) ?_
  refine g_iand hC dX3_become_5 ?_
  refine g_put (C := RX3) (T := TX3) (N := 5) (ty := .int) (ws' := [oO aW 2 [.ref aP, .int (j1.toInt32 &&& (1048575 : Int32)), .int xW_quiets, .int xW_place, .int xW_turned]]) hC tyX3_ok nmX3 hinX3 0 1 rfl rfl (by decide) (List.mem_of_getElem? (i := 2) rfl) rfl rfl rfl rfl (Nat.le_of_ble_eq_true rfl) dX3_become_6 rfl ?_
  refine g_aload_n hC 0 dX3_become_9 rfl rfl ?_
  refine g_lload_n hC 1 dX3_become_10 rfl rfl ?_
  refine g_bipush (v := (20 : Int32)) hC dX3_become_11 cb_20 ?_
  refine g_lushr hC dX3_become_13 ?_
  refine g_l2i hC dX3_become_14 ?_
  refine g_ldc (v := (1048575 : Int32)) hC dX3_become_15 (List.mem_of_getElem? (i := 1) rfl) ?_
  refine g_iand hC dX3_become_17 ?_
  refine g_put (C := RX3) (T := TX3) (N := 5) (ty := .int) (ws' := [oO aW 2 [.ref aP, .int (j1.toInt32 &&& (1048575 : Int32)), .int (((j1.toUInt64 >>> ((20 : Int32).toInt64.toUInt64 &&& Int64.toUInt64 63)).toInt64).toInt32 &&& (1048575 : Int32)), .int xW_place, .int xW_turned]]) hC tyX3_ok nmX3 hinX3 0 2 rfl rfl (by decide) (List.mem_of_getElem? (i := 3) rfl) rfl rfl rfl rfl (Nat.le_of_ble_eq_true rfl) dX3_become_18 rfl ?_
  refine g_aload_n hC 0 dX3_become_21 rfl rfl ?_
  refine g_lload_n hC 1 dX3_become_22 rfl rfl ?_
  refine g_bipush (v := (40 : Int32)) hC dX3_become_23 cb_40 ?_
  refine g_lushr hC dX3_become_25 ?_
  refine g_l2i hC dX3_become_26 ?_
  refine g_put (C := RX3) (T := TX3) (N := 5) (ty := .int) (ws' := [oO aW 2 [.ref aP, .int (j1.toInt32 &&& (1048575 : Int32)), .int (((j1.toUInt64 >>> ((20 : Int32).toInt64.toUInt64 &&& Int64.toUInt64 63)).toInt64).toInt32 &&& (1048575 : Int32)), .int (((j1.toUInt64 >>> ((40 : Int32).toInt64.toUInt64 &&& Int64.toUInt64 63)).toInt64).toInt32), .int xW_turned]]) hC tyX3_ok nmX3 hinX3 0 3 rfl rfl (by decide) (List.mem_of_getElem? (i := 4) rfl) rfl rfl rfl rfl (Nat.le_of_ble_eq_true rfl) dX3_become_27 rfl ?_
  exact hQ ((j1.toInt32 &&& (1048575 : Int32)), (((j1.toUInt64 >>> ((20 : Int32).toInt64.toUInt64 &&& Int64.toUInt64 63)).toInt64).toInt32 &&& (1048575 : Int32)), ((j1.toUInt64 >>> ((40 : Int32).toInt64.toUInt64 &&& Int64.toUInt64 63)).toInt64).toInt32) _ _ (gd_s hf) dX3_become_30
theorem kyX3_treadsOf : yX3_treadsOf.cls ≠ "java/lang/invoke/MethodHandle" ∧ yX3_treadsOf.cls ≠ "java/lang/invoke/VarHandle" ∧ (parseMethodDescriptor yX3_treadsOf.desc).map (fun d => d.parameters.length) = some 2 := by decide +kernel
set_option maxHeartbeats 4000000 in
set_option maxRecDepth 100000 in
theorem cX3_treadsOf_m (l : Launch) (D : va_G)  (j0 : Int64) (j2 : Int32) (z : Int32) (hf : fX3_treadsOf j0 j2 = some z) : ∀ sz : Nat, Met l yX3_treadsOf wsX3_treadsOf ({ frames := 0, cells := 0, slots := 0, locals := 0 } : Room) (kPre D [] [] sz [.long j0, .int j2]) (kQi D [] [] sz [] z) 0 0 (va_A [] sz) := by
  refine kMet_i (own := RX3) z (fun u => u) (fun u => []) rfl (by decide) rfl ⟨rfl, rfl⟩ (Nat.le_of_ble_eq_true rfl) ?_
  intro X hXl hXD hC hQ
  subst hXl
  subst hXD
  change kG X 0 [(0, .long j0), (2, .int j2)] [] []
  have t5 : ∀  (n : Nat) (j2 : Int32) (j3 : Int64) (j5 : Int32), lp (fun _ _ _ => none) (fX3_treadsOf_b5_S ) n j2 j3 j5 = some z → kG X 5 [(2, .int j2), (3, .long j3), (5, .int j5)] [] [] := by
    intro  n
    induction n with
    | zero => intro j2 j3 j5 hf; cases hf
    | succ n hk5 =>
      intro j2 j3 j5 hf
      rw [lp_s] at hf
      revert hf hk5
      generalize lp (fun _ _ _ => none) (fX3_treadsOf_b5_S ) n = k5
      intro hk5 hf
      unfold fX3_treadsOf_b5_S at hf
      refine g_iload hC 2 dX3_treadsOf_5 rfl ?_
      refine g_iload_n hC 0 dX3_treadsOf_7 rfl rfl ?_
      refine g_icmp_ge (tgt := 23) hC dX3_treadsOf_8 (by decide) (fun hc => ?_) (fun hc => ?_)
      · replace hf := gd_t hc hf
        refine g_lload_n hC 1 dX3_treadsOf_23 rfl rfl ?_
        refine g_ldc2 (v := (100 : Int64)) hC dX3_treadsOf_24 (List.mem_of_getElem? (i := 1) rfl) ?_
        refine g_lrem hC dX3_treadsOf_27 (by decide) ?_
        refine g_l2i hC dX3_treadsOf_28 ?_
        exact hQ ((j3 - j3 / (100 : Int64) * (100 : Int64)).toInt32) _ _ (gd_s hf) dX3_treadsOf_29
      · replace hf := gd_f hc hf
        refine g_lload_n hC 1 dX3_treadsOf_11 rfl rfl ?_
        refine g_ldc2 (v := (100 : Int64)) hC dX3_treadsOf_12 (List.mem_of_getElem? (i := 1) rfl) ?_
        refine g_ldiv hC dX3_treadsOf_15 (by decide) ?_
        refine g_lstore_n (lv' := [(3, .long (j3 / (100 : Int64))), (2, .int j2), (5, .int j5)]) hC dX3_treadsOf_16 rfl (by decide) rfl ?_
        refine g_iinc (v := (j5 + (1 : Int32))) (lv' := [(5, .int (j5 + (1 : Int32))), (3, .long (j3 / (100 : Int64))), (2, .int j2)]) hC 2 dX3_treadsOf_17 rfl (ii _ ci_1) (by decide) rfl ?_
        refine g_goto (tgt := 5) hC dX3_treadsOf_20 (by decide) ?_
        refine g_lv (lv' := [(2, .int j2), (3, .long (j3 / (100 : Int64))), (5, .int (j5 + (1 : Int32)))]) [2, 1, 0] rfl ?_
        exact hk5 j2 (j3 / (100 : Int64)) (j5 + (1 : Int32)) hf
  unfold fX3_treadsOf at hf
  refine g_lload_n hC 0 dX3_treadsOf_0 rfl rfl ?_
  refine g_lstore_n (lv' := [(3, .long j0), (0, .long j0), (2, .int j2)]) hC dX3_treadsOf_1 rfl (by decide) rfl ?_
  refine g_iconst (v := (0 : Int32)) hC dX3_treadsOf_2 ci_0 ?_
  refine g_istore (lv' := [(5, .int (0 : Int32)), (3, .long j0), (0, .long j0), (2, .int j2)]) hC dX3_treadsOf_3 (by decide) rfl ?_
  refine g_lv (lv' := [(2, .int j2), (3, .long j0), (5, .int (0 : Int32))]) [3, 1, 0] rfl ?_
  exact t5  fu j2 j0 (0 : Int32) hf
theorem kyX3_sing : yX3_sing.cls = RX3 ∧ yX3_sing.cls ≠ "java/lang/invoke/MethodHandle" ∧ yX3_sing.cls ≠ "java/lang/invoke/VarHandle" ∧ (parseMethodDescriptor yX3_sing.desc).map (fun d => d.parameters.length) = some 2 := by decide +kernel
set_option maxHeartbeats 4000000 in
set_option maxRecDepth 100000 in
theorem cX3_sing_m (l : Launch) (D : va_G) (aP aW : Nat) (xP_walkers : Int32) (xP_light : Int32) (xP_water : Int32) (xP_nerves : Int32) (xP_kinds : Int32) (xW_row : Int32) (xW_quiets : Int32) (xW_place : Int32) (xW_turned : Int32) (j1 : Int32) (j2 : Int64) (z : Int32 × Int32 × Int32 × Int32 × Int32) (hf : fX3_sing j1 j2 xP_light xP_water xP_nerves xP_kinds xW_row xW_quiets xW_place xW_turned = some z) : ∀ sz : Nat, Met l yX3_sing wsX3_sing ({ frames := 4, cells := 0, slots := 0, locals := 92 } : Room) (kPre D [] [oO aP 0 [.int xP_walkers, .int xP_light, .int xP_water, .int xP_nerves, .int xP_kinds], oO aW 2 [.ref aP, .int xW_row, .int xW_quiets, .int xW_place, .int xW_turned]] sz [.ref aW, .int j1, .long j2]) (kQi D [] [oO aP 0 [.int xP_walkers, .int xP_light, .int xP_water, .int xP_nerves, .int xP_kinds], oO aW 2 [.ref aP, .int xW_row, .int xW_quiets, .int xW_place, .int xW_turned]] sz [oO aP 0 [.int xP_walkers, .int xP_light, .int xP_water, .int xP_nerves, .int xP_kinds], oO aW 2 [.ref aP, .int z.2.1, .int z.2.2.1, .int z.2.2.2.1, .int z.2.2.2.2]] z.1) 0 0 (va_A [oO aP 0 [.int xP_walkers, .int xP_light, .int xP_water, .int xP_nerves, .int xP_kinds], oO aW 2 [.ref aP, .int xW_row, .int xW_quiets, .int xW_place, .int xW_turned]] sz) := by
  refine kMet_i (own := RX3) z (fun u => u.1) (fun u => [oO aP 0 [.int xP_walkers, .int xP_light, .int xP_water, .int xP_nerves, .int xP_kinds], oO aW 2 [.ref aP, .int u.2.1, .int u.2.2.1, .int u.2.2.2.1, .int u.2.2.2.2]]) rfl (by decide) rfl ⟨rfl, rfl⟩ (Nat.le_of_ble_eq_true rfl) ?_
  intro X hXl hXD hC hQ
  subst hXl
  subst hXD
  change kG X 0 [(0, .ref aW), (1, .int j1), (2, .long j2)] [] [oO aP 0 [.int xP_walkers, .int xP_light, .int xP_water, .int xP_nerves, .int xP_kinds], oO aW 2 [.ref aP, .int xW_row, .int xW_quiets, .int xW_place, .int xW_turned]]
  have hinX3 : ∀ w ∈ wsX30, w ∈ wsX3_sing := fun _ h => List.mem_cons_of_mem _ (List.mem_append_left _ (List.mem_append_right _ h))
  have t53 : ∀ (k7 : Int32 → Int64 → Int32 → Int32 → Int32 → Int32 → Int32 → Int32 → Option (Int32 × Int32 × Int32 × Int32 × Int32)) (hk7 : ∀ (j1 : Int32) (j2 : Int64) (j4 : Int32) (j5 : Int32) (xW_row : Int32) (xW_quiets : Int32) (xW_place : Int32) (xW_turned : Int32), k7 j1 j2 j4 j5 xW_row xW_quiets xW_place xW_turned = some z → kG X 7 [(0, .ref aW), (1, .int j1), (2, .long j2), (4, .int j4), (5, .int j5)] [] [oO aP 0 [.int xP_walkers, .int xP_light, .int xP_water, .int xP_nerves, .int xP_kinds], oO aW 2 [.ref aP, .int xW_row, .int xW_quiets, .int xW_place, .int xW_turned]]) (j1 : Int32) (j2 : Int64) (j4 : Int32) (j5 : Int32) (xW_row : Int32) (xW_quiets : Int32) (xW_place : Int32) (xW_turned : Int32), fX3_sing_b53 xP_light xP_water xP_nerves xP_kinds k7 j1 j2 j4 j5 xW_row xW_quiets xW_place xW_turned = some z → kG X 53 [(0, .ref aW), (1, .int j1), (2, .long j2), (4, .int j4), (5, .int j5)] [] [oO aP 0 [.int xP_walkers, .int xP_light, .int xP_water, .int xP_nerves, .int xP_kinds], oO aW 2 [.ref aP, .int xW_row, .int xW_quiets, .int xW_place, .int xW_turned]] := by
    intro k7 hk7 j1 j2 j4 j5 xW_row xW_quiets xW_place xW_turned hf
    unfold fX3_sing_b53 at hf
    refine g_iinc (v := (j5 + (1 : Int32))) (lv' := [(5, .int (j5 + (1 : Int32))), (0, .ref aW), (1, .int j1), (2, .long j2), (4, .int j4)]) hC 4 dX3_sing_53 rfl (ii _ ci_1) (by decide) rfl ?_
    refine g_goto (tgt := 7) hC dX3_sing_56 (by decide) ?_
    refine g_lv (lv' := [(0, .ref aW), (1, .int j1), (2, .long j2), (4, .int j4), (5, .int (j5 + (1 : Int32)))]) [1, 2, 3, 4, 0] rfl ?_
    exact hk7 j1 j2 j4 (j5 + (1 : Int32)) xW_row xW_quiets xW_place xW_turned hf
  have t7 : ∀  (n : Nat) (j1 : Int32) (j2 : Int64) (j4 : Int32) (j5 : Int32) (xW_row : Int32) (xW_quiets : Int32) (xW_place : Int32) (xW_turned : Int32), lp (fun _ _ _ _ _ _ _ _ => none) (fX3_sing_b7_S xP_light xP_water xP_nerves xP_kinds ) n j1 j2 j4 j5 xW_row xW_quiets xW_place xW_turned = some z → kG X 7 [(0, .ref aW), (1, .int j1), (2, .long j2), (4, .int j4), (5, .int j5)] [] [oO aP 0 [.int xP_walkers, .int xP_light, .int xP_water, .int xP_nerves, .int xP_kinds], oO aW 2 [.ref aP, .int xW_row, .int xW_quiets, .int xW_place, .int xW_turned]] := by
    intro  n
    induction n with
    | zero => intro j1 j2 j4 j5 xW_row xW_quiets xW_place xW_turned hf; cases hf
    | succ n hk7 =>
      intro j1 j2 j4 j5 xW_row xW_quiets xW_place xW_turned hf
      rw [lp_s] at hf
      revert hf hk7
      generalize lp (fun _ _ _ _ _ _ _ _ => none) (fX3_sing_b7_S xP_light xP_water xP_nerves xP_kinds ) n = k7
      intro hk7 hf
      unfold fX3_sing_b7_S at hf
      refine g_iload hC 4 dX3_sing_7 rfl ?_
      refine g_iload_n hC 1 dX3_sing_9 rfl rfl ?_
      refine g_icmp_ge (tgt := 59) hC dX3_sing_10 (by decide) (fun hc => ?_) (fun hc => ?_)
      · replace hf := gd_t hc hf
        refine g_iload hC 3 dX3_sing_59 rfl ?_
        exact hQ (j4, xW_row, xW_quiets, xW_place, xW_turned) _ _ (gd_s hf) dX3_sing_61
      · replace hf := gd_f hc hf
        refine g_aload_n hC 0 dX3_sing_13 rfl rfl ?_
        obtain ⟨z14, hz14, hf⟩ := gd_b hf
        refine g_callVi (wr := []) (wn := [oO aP 0 [.int xP_walkers, .int xP_light, .int xP_water, .int xP_nerves, .int xP_kinds], oO aW 2 [.ref aP, .int xW_row, .int xW_quiets, .int xW_place, .int xW_turned]]) hC [] (cX3_isOut_m (kl X) (kD X) aP aW xP_walkers xP_light xP_water xP_nerves xP_kinds xW_row xW_quiets xW_place xW_turned z14 hz14) gX3_sing_X3_isOut rfl kyX3_isOut rfl rfl rfl (q0 := 1) rfl [0, 1] [] [] [0, 1] rfl rfl rfl rfl (by decide) rfl rfl rfl ⟨rfl, rfl⟩ ⟨Nat.le_of_ble_eq_true rfl, Nat.le_of_ble_eq_true rfl⟩ (Nat.le_of_ble_eq_true rfl) rfl dX3_sing_14 ?_
        refine g_if_ne (tgt := 59) hC dX3_sing_17 (by decide) (fun hc => ?_) (fun hc => ?_)
        · replace hf := gd_f hc hf
          refine g_iload hC 3 dX3_sing_59 rfl ?_
          exact hQ (j4, xW_row, xW_quiets, xW_place, xW_turned) _ _ (gd_s hf) dX3_sing_61
        · replace hf := gd_t hc hf
          refine g_aload_n hC 0 dX3_sing_20 rfl rfl ?_
          refine g_lload_n hC 2 dX3_sing_21 rfl rfl ?_
          refine g_iload_n hC 1 dX3_sing_22 rfl rfl ?_
          refine g_iconst (v := (1 : Int32)) hC dX3_sing_23 ci_1 ?_
          refine g_isub hC dX3_sing_24 ?_
          refine g_iload hC 4 dX3_sing_25 rfl ?_
          refine g_isub hC dX3_sing_27 ?_
          obtain ⟨z28, hz28, hf⟩ := gd_b hf
          refine g_callSi (wr := [oO aP 0 [.int xP_walkers, .int xP_light, .int xP_water, .int xP_nerves, .int xP_kinds], oO aW 2 [.ref aP, .int xW_row, .int xW_quiets, .int xW_place, .int xW_turned]]) (wn := [oO aP 0 [.int xP_walkers, .int xP_light, .int xP_water, .int xP_nerves, .int xP_kinds], oO aW 2 [.ref aP, .int xW_row, .int xW_quiets, .int xW_place, .int xW_turned]]) hC [.long j2, .int ((j1 - (1 : Int32)) - j5)] (cX3_treadsOf_m (kl X) (kD X) j2 ((j1 - (1 : Int32)) - j5) z28 hz28) gX3_sing_X3_treadsOf rfl kyX3_treadsOf rfl [] [0, 1] [] [0, 1] rfl rfl rfl rfl (by decide) rfl rfl rfl ⟨rfl, rfl⟩ ⟨Nat.le_of_ble_eq_true rfl, Nat.le_of_ble_eq_true rfl⟩ (Nat.le_of_ble_eq_true rfl) rfl dX3_sing_28 ?_
          obtain ⟨z31, hz31, hf⟩ := gd_b hf
          refine g_callVi (wr := []) (wn := [oO aP 0 [.int xP_walkers, .int xP_light, .int xP_water, .int xP_nerves, .int xP_kinds], oO aW 2 [.ref aP, .int z31.2.1, .int z31.2.2.1, .int z31.2.2.2.1, .int z31.2.2.2.2]]) hC [.int z28] (cX3_step_m (kl X) (kD X) aP aW xP_walkers xP_light xP_water xP_nerves xP_kinds xW_row xW_quiets xW_place xW_turned z28 z31 hz31) gX3_sing_X3_step rfl kyX3_step rfl rfl rfl (q0 := 1) rfl [0, 1] [] [] [0, 1] rfl rfl rfl rfl (by decide) rfl rfl rfl ⟨rfl, rfl⟩ ⟨Nat.le_of_ble_eq_true rfl, Nat.le_of_ble_eq_true rfl⟩ (Nat.le_of_ble_eq_true rfl) rfl dX3_sing_31 ?_
          refine g_pop hC dX3_sing_34 rfl ?_
          refine g_aload_n hC 0 dX3_sing_35 rfl rfl ?_
          refine g_get (C := RX3) (T := TX3) (N := 5) (v := .int z31.2.2.2.2) hC hinX3 1 4 rfl rfl (by decide) (List.mem_of_getElem? (i := 1) rfl) rfl dX3_sing_36 ?_
          refine g_if_eq (tgt := 53) hC dX3_sing_39 (by decide) (fun hc => ?_) (fun hc => ?_)
          · replace hf := gd_t hc hf
            exact t53 k7 hk7 j1 j2 j4 j5 z31.2.1 z31.2.2.1 z31.2.2.2.1 z31.2.2.2.2 hf
          · replace hf := gd_f hc hf
            refine g_iload hC 3 dX3_sing_42 rfl ?_
            refine g_bipush (v := (-9 : Int32)) hC dX3_sing_44 cb_m9 ?_
            refine g_icmp_ne (tgt := 53) hC dX3_sing_46 (by decide) (fun hc => ?_) (fun hc => ?_)
            · replace hf := gd_f hc hf
              exact t53 k7 hk7 j1 j2 j4 j5 z31.2.1 z31.2.2.1 z31.2.2.2.1 z31.2.2.2.2 hf
            · replace hf := gd_t hc hf
              refine g_iload hC 4 dX3_sing_49 rfl ?_
              refine g_istore (lv' := [(4, .int j5), (0, .ref aW), (1, .int j1), (2, .long j2), (5, .int j5)]) hC dX3_sing_51 (by decide) rfl ?_
              refine g_lv (lv' := [(0, .ref aW), (1, .int j1), (2, .long j2), (4, .int j5), (5, .int j5)]) [1, 2, 3, 0, 4] rfl ?_
              exact t53 k7 hk7 j1 j2 j5 j5 z31.2.1 z31.2.2.1 z31.2.2.2.1 z31.2.2.2.2 hf
  unfold fX3_sing at hf
  refine g_bipush (v := (-9 : Int32)) hC dX3_sing_0 cb_m9 ?_
  refine g_istore (lv' := [(4, .int (-9 : Int32)), (0, .ref aW), (1, .int j1), (2, .long j2)]) hC dX3_sing_2 (by decide) rfl ?_
  refine g_iconst (v := (0 : Int32)) hC dX3_sing_4 ci_0 ?_
  refine g_istore (lv' := [(5, .int (0 : Int32)), (4, .int (-9 : Int32)), (0, .ref aW), (1, .int j1), (2, .long j2)]) hC dX3_sing_5 (by decide) rfl ?_
  refine g_lv (lv' := [(0, .ref aW), (1, .int j1), (2, .long j2), (4, .int (-9 : Int32)), (5, .int (0 : Int32))]) [2, 3, 4, 1, 0] rfl ?_
  exact t7  fu j1 j2 (-9 : Int32) (0 : Int32) xW_row xW_quiets xW_place xW_turned hf
theorem kyX3_turned : yX3_turned.cls = RX3 ∧ yX3_turned.cls ≠ "java/lang/invoke/MethodHandle" ∧ yX3_turned.cls ≠ "java/lang/invoke/VarHandle" ∧ (parseMethodDescriptor yX3_turned.desc).map (fun d => d.parameters.length) = some 0 := by decide +kernel
set_option maxHeartbeats 4000000 in
set_option maxRecDepth 100000 in
theorem cX3_turned_m (l : Launch) (D : va_G) (aP aW : Nat) (xW_row : Int32) (xW_quiets : Int32) (xW_place : Int32) (xW_turned : Int32)  (z : Int32) (hf : fX3_turned xW_turned = some z) : ∀ sz : Nat, Met l yX3_turned wsX3_turned ({ frames := 0, cells := 0, slots := 0, locals := 0 } : Room) (kPre D [] [oO aW 2 [.ref aP, .int xW_row, .int xW_quiets, .int xW_place, .int xW_turned]] sz [.ref aW]) (kQi D [] [oO aW 2 [.ref aP, .int xW_row, .int xW_quiets, .int xW_place, .int xW_turned]] sz [oO aW 2 [.ref aP, .int xW_row, .int xW_quiets, .int xW_place, .int xW_turned]] z) 0 0 (va_A [oO aW 2 [.ref aP, .int xW_row, .int xW_quiets, .int xW_place, .int xW_turned]] sz) := by
  refine kMet_i (own := RX3) z (fun u => u) (fun u => [oO aW 2 [.ref aP, .int xW_row, .int xW_quiets, .int xW_place, .int xW_turned]]) rfl (by decide) rfl ⟨rfl, rfl⟩ (Nat.le_of_ble_eq_true rfl) ?_
  intro X hXl hXD hC hQ
  subst hXl
  subst hXD
  change kG X 0 [(0, .ref aW)] [] [oO aW 2 [.ref aP, .int xW_row, .int xW_quiets, .int xW_place, .int xW_turned]]
  have hinX3 : ∀ w ∈ wsX30, w ∈ wsX3_turned := fun _ h => List.mem_cons_of_mem _ (List.mem_append_right _ h)
  unfold fX3_turned at hf
  refine g_aload_n hC 0 dX3_turned_0 rfl rfl ?_
  refine g_get (C := RX3) (T := TX3) (N := 5) (v := .int xW_turned) hC hinX3 0 4 rfl rfl (by decide) (List.mem_of_getElem? (i := 1) rfl) rfl dX3_turned_1 ?_
  exact hQ (xW_turned) _ _ (gd_s hf) dX3_turned_4
