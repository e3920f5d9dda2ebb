theorem kyX2_append : yX2_append.cls = RX2 ∧ yX2_append.cls ≠ "java/lang/invoke/MethodHandle" ∧ yX2_append.cls ≠ "java/lang/invoke/VarHandle" ∧ (parseMethodDescriptor yX2_append.desc).map (fun d => d.parameters.length) = some 1 := by decide +kernel
set_option maxHeartbeats 4000000 in
set_option maxRecDepth 100000 in
theorem cX2_append_m (l : Launch) (D : va_G) (aT aB : Nat) (iB : ClassId) (xT_length : Int32) (xB : Nat → Int32) (j1 : Int32) (z : Int32 × Int32 × (Nat → Int32)) (hf : fX2_append j1 xT_length xB = some z) : ∀ sz : Nat, Met l yX2_append wsX2_append ({ frames := 0, cells := 0, slots := 0, locals := 0 } : Room) (kPre D [(iB, .int)] [oO aT 1 [.ref aB, .int xT_length], oI aB iB 32 xB] sz [.ref aT, .int j1]) (kQi D [(iB, .int)] [oO aT 1 [.ref aB, .int xT_length], oI aB iB 32 xB] sz [oO aT 1 [.ref aB, .int z.2.1], oI aB iB 32 z.2.2] z.1) 0 0 (va_A [oO aT 1 [.ref aB, .int xT_length], oI aB iB 32 xB] sz) := by
  refine kMet_z (own := RX2) z (fun u => u.1) (fun u => [oO aT 1 [.ref aB, .int u.2.1], oI aB iB 32 u.2.2]) rfl (by decide) rfl ⟨rfl, rfl⟩ (Nat.le_of_ble_eq_true rfl) ?_
  intro X hXl hXD hC hQ
  subst hXl
  subst hXD
  change kG X 0 [(0, .ref aT), (1, .int j1)] [] [oO aT 1 [.ref aB, .int xT_length], oI aB iB 32 xB]
  have hinX2 : ∀ w ∈ wsX20, w ∈ wsX2_append := fun _ h => List.mem_cons_of_mem _ (List.mem_append_right _ h)
  unfold fX2_append at hf
  refine g_aload_n hC 0 dX2_append_0 rfl rfl ?_
  refine g_get (C := RX2) (T := TX2) (N := 2) (v := .int xT_length) hC hinX2 0 1 rfl rfl (by decide) (List.mem_of_getElem? (i := 1) rfl) rfl dX2_append_1 ?_
  refine g_if_lt (tgt := 19) hC dX2_append_4 (by decide) (fun hc => ?_) (fun hc => ?_)
  · replace hf := gd_t hc hf
    refine g_iconst (v := (0 : Int32)) hC dX2_append_19 ci_0 ?_
    exact hQ ((0 : Int32), xT_length, xB) _ _ (gd_s hf) (nz_of (Or.inl rfl)) dX2_append_20
  · replace hf := gd_f hc hf
    refine g_aload_n hC 0 dX2_append_7 rfl rfl ?_
    refine g_get (C := RX2) (T := TX2) (N := 2) (v := .int xT_length) hC hinX2 0 1 rfl rfl (by decide) (List.mem_of_getElem? (i := 1) rfl) rfl dX2_append_8 ?_
    refine g_aload_n hC 0 dX2_append_11 rfl rfl ?_
    refine g_get (C := RX2) (T := TX2) (N := 2) (v := .ref aB) hC hinX2 0 0 rfl rfl (by decide) (List.mem_of_getElem? (i := 2) rfl) rfl dX2_append_12 ?_
    refine g_alen (v := (32 : Int32)) hC 1 0 rfl rfl cn_32 dX2_append_15 ?_
    refine g_icmp_lt (tgt := 21) hC dX2_append_16 (by decide) (fun hc => ?_) (fun hc => ?_)
    · replace hf := gd_t hc hf
      refine g_aload_n hC 0 dX2_append_21 rfl rfl ?_
      refine g_get (C := RX2) (T := TX2) (N := 2) (v := .ref aB) hC hinX2 0 0 rfl rfl (by decide) (List.mem_of_getElem? (i := 2) rfl) rfl dX2_append_22 ?_
      refine g_aload_n hC 0 dX2_append_25 rfl rfl ?_
      refine g_get (C := RX2) (T := TX2) (N := 2) (v := .int xT_length) hC hinX2 0 1 rfl rfl (by decide) (List.mem_of_getElem? (i := 1) rfl) rfl dX2_append_26 ?_
      refine g_iload_n hC 1 dX2_append_29 rfl rfl ?_
      obtain ⟨hg, hf⟩ := gd_ga hf
      refine g_iast (ws' := [oO aT 1 [.ref aB, .int xT_length], oI aB iB 32 (upd xB xT_length.toNatClampNeg j1)]) hC 1 0 hg rfl rfl dX2_append_30 rfl ?_
      refine g_aload_n hC 0 dX2_append_31 rfl rfl ?_
      refine g_dup hC dX2_append_32 rfl ?_
      refine g_get (C := RX2) (T := TX2) (N := 2) (v := .int xT_length) hC hinX2 0 1 rfl rfl (by decide) (List.mem_of_getElem? (i := 1) rfl) rfl dX2_append_33 ?_
      refine g_iconst (v := (1 : Int32)) hC dX2_append_36 ci_1 ?_
      refine g_iadd hC dX2_append_37 ?_
      refine g_put (C := RX2) (T := TX2) (N := 2) (ty := .int) (ws' := [oO aT 1 [.ref aB, .int (xT_length + (1 : Int32))], oI aB iB 32 (upd xB xT_length.toNatClampNeg j1)]) hC tyX2_ok nmX2 hinX2 0 1 rfl rfl (by decide) (List.mem_of_getElem? (i := 1) rfl) rfl rfl rfl rfl (Nat.le_of_ble_eq_true rfl) dX2_append_38 rfl ?_
      refine g_iconst (v := (1 : Int32)) hC dX2_append_41 ci_1 ?_
      exact hQ ((1 : Int32), (xT_length + (1 : Int32)), (upd xB xT_length.toNatClampNeg j1)) _ _ (gd_s hf) (nz_of (Or.inr rfl)) dX2_append_42
    · replace hf := gd_f hc hf
      refine g_iconst (v := (0 : Int32)) hC dX2_append_19 ci_0 ?_
      exact hQ ((0 : Int32), xT_length, xB) _ _ (gd_s hf) (nz_of (Or.inl rfl)) dX2_append_20
theorem kyX2_length : yX2_length.cls = RX2 ∧ yX2_length.cls ≠ "java/lang/invoke/MethodHandle" ∧ yX2_length.cls ≠ "java/lang/invoke/VarHandle" ∧ (parseMethodDescriptor yX2_length.desc).map (fun d => d.parameters.length) = some 0 := by decide +kernel
set_option maxHeartbeats 4000000 in
set_option maxRecDepth 100000 in
theorem cX2_length_m (l : Launch) (D : va_G) (aT aB : Nat) (xT_length : Int32)  (z : Int32) (hf : fX2_length xT_length = some z) : ∀ sz : Nat, Met l yX2_length wsX2_length ({ frames := 0, cells := 0, slots := 0, locals := 0 } : Room) (kPre D [] [oO aT 1 [.ref aB, .int xT_length]] sz [.ref aT]) (kQi D [] [oO aT 1 [.ref aB, .int xT_length]] sz [oO aT 1 [.ref aB, .int xT_length]] z) 0 0 (va_A [oO aT 1 [.ref aB, .int xT_length]] sz) := by
  refine kMet_i (own := RX2) z (fun u => u) (fun u => [oO aT 1 [.ref aB, .int xT_length]]) rfl (by decide) rfl ⟨rfl, rfl⟩ (Nat.le_of_ble_eq_true rfl) ?_
  intro X hXl hXD hC hQ
  subst hXl
  subst hXD
  change kG X 0 [(0, .ref aT)] [] [oO aT 1 [.ref aB, .int xT_length]]
  have hinX2 : ∀ w ∈ wsX20, w ∈ wsX2_length := fun _ h => List.mem_cons_of_mem _ (List.mem_append_right _ h)
  unfold fX2_length at hf
  refine g_aload_n hC 0 dX2_length_0 rfl rfl ?_
  refine g_get (C := RX2) (T := TX2) (N := 2) (v := .int xT_length) hC hinX2 0 1 rfl rfl (by decide) (List.mem_of_getElem? (i := 1) rfl) rfl dX2_length_1 ?_
  exact hQ (xT_length) _ _ (gd_s hf) dX2_length_4
theorem kyX2_clear : yX2_clear.cls = RX2 ∧ yX2_clear.cls ≠ "java/lang/invoke/MethodHandle" ∧ yX2_clear.cls ≠ "java/lang/invoke/VarHandle" ∧ (parseMethodDescriptor yX2_clear.desc).map (fun d => d.parameters.length) = some 0 := by decide +kernel
set_option maxHeartbeats 4000000 in
set_option maxRecDepth 100000 in
theorem cX2_clear_m (l : Launch) (D : va_G) (aT aB : Nat) (xT_length : Int32)  (z : Int32) (hf : fX2_clear xT_length = some z) : ∀ sz : Nat, Met l yX2_clear wsX2_clear ({ frames := 0, cells := 0, slots := 0, locals := 0 } : Room) (kPre D [] [oO aT 1 [.ref aB, .int xT_length]] sz [.ref aT]) (kQv D [] [oO aT 1 [.ref aB, .int xT_length]] sz [oO aT 1 [.ref aB, .int z]]) 0 0 (va_A [oO aT 1 [.ref aB, .int xT_length]] sz) := by
  refine kMet_v (own := RX2) z (fun u => [oO aT 1 [.ref aB, .int u]]) rfl (by decide) rfl ⟨rfl, rfl⟩ (Nat.le_of_ble_eq_true rfl) ?_
  intro X hXl hXD hC hQ
  subst hXl
  subst hXD
  change kG X 0 [(0, .ref aT)] [] [oO aT 1 [.ref aB, .int xT_length]]
  have hinX2 : ∀ w ∈ wsX20, w ∈ wsX2_clear := fun _ h => List.mem_cons_of_mem _ (List.mem_append_right _ h)
  unfold fX2_clear at hf
  refine g_aload_n hC 0 dX2_clear_0 rfl rfl ?_
  refine g_iconst (v := (0 : Int32)) hC dX2_clear_1 ci_0 ?_
  refine g_put (C := RX2) (T := TX2) (N := 2) (ty := .int) (ws' := [oO aT 1 [.ref aB, .int (0 : Int32)]]) hC tyX2_ok nmX2 hinX2 0 1 rfl rfl (by decide) (List.mem_of_getElem? (i := 1) rfl) rfl rfl rfl rfl (Nat.le_of_ble_eq_true rfl) dX2_clear_2 rfl ?_
  exact hQ ((0 : Int32)) _ _ (gd_s hf) dX2_clear_5
theorem kyX2_byteAt : yX2_byteAt.cls = RX2 ∧ yX2_byteAt.cls ≠ "java/lang/invoke/MethodHandle" ∧ yX2_byteAt.cls ≠ "java/lang/invoke/VarHandle" ∧ (parseMethodDescriptor yX2_byteAt.desc).map (fun d => d.parameters.length) = some 1 := by decide +kernel
set_option maxHeartbeats 4000000 in
set_option maxRecDepth 100000 in
theorem cX2_byteAt_m (l : Launch) (D : va_G) (aT aB : Nat) (iB : ClassId) (xT_length : Int32) (xB : Nat → Int32) (j1 : Int32) (z : Int32) (hf : fX2_byteAt j1 xB = some z) : ∀ sz : Nat, Met l yX2_byteAt wsX2_byteAt ({ frames := 0, cells := 0, slots := 0, locals := 0 } : Room) (kPre D [(iB, .int)] [oO aT 1 [.ref aB, .int xT_length], oI aB iB 32 xB] sz [.ref aT, .int j1]) (kQi D [(iB, .int)] [oO aT 1 [.ref aB, .int xT_length], oI aB iB 32 xB] sz [oO aT 1 [.ref aB, .int xT_length], oI aB iB 32 xB] z) 0 0 (va_A [oO aT 1 [.ref aB, .int xT_length], oI aB iB 32 xB] sz) := by
  refine kMet_i (own := RX2) z (fun u => u) (fun u => [oO aT 1 [.ref aB, .int xT_length], oI aB iB 32 xB]) rfl (by decide) rfl ⟨rfl, rfl⟩ (Nat.le_of_ble_eq_true rfl) ?_
  intro X hXl hXD hC hQ
  subst hXl
  subst hXD
  change kG X 0 [(0, .ref aT), (1, .int j1)] [] [oO aT 1 [.ref aB, .int xT_length], oI aB iB 32 xB]
  have hinX2 : ∀ w ∈ wsX20, w ∈ wsX2_byteAt := fun _ h => List.mem_cons_of_mem _ (List.mem_append_right _ h)
  unfold fX2_byteAt at hf
  refine g_iload_n hC 1 dX2_byteAt_0 rfl rfl ?_
  refine g_if_lt (tgt := 22) hC dX2_byteAt_1 (by decide) (fun hc => ?_) (fun hc => ?_)
  · replace hf := gd_t hc hf
    refine g_iconst (v := (0 : Int32)) hC dX2_byteAt_22 ci_0 ?_
    exact hQ ((0 : Int32)) _ _ (gd_s hf) dX2_byteAt_23
  · replace hf := gd_f hc hf
    refine g_iload_n hC 1 dX2_byteAt_4 rfl rfl ?_
    refine g_aload_n hC 0 dX2_byteAt_5 rfl rfl ?_
    refine g_get (C := RX2) (T := TX2) (N := 2) (v := .ref aB) hC hinX2 0 0 rfl rfl (by decide) (List.mem_of_getElem? (i := 1) rfl) rfl dX2_byteAt_6 ?_
    refine g_alen (v := (32 : Int32)) hC 1 0 rfl rfl cn_32 dX2_byteAt_9 ?_
    refine g_icmp_ge (tgt := 22) hC dX2_byteAt_10 (by decide) (fun hc => ?_) (fun hc => ?_)
    · replace hf := gd_t hc hf
      refine g_iconst (v := (0 : Int32)) hC dX2_byteAt_22 ci_0 ?_
      exact hQ ((0 : Int32)) _ _ (gd_s hf) dX2_byteAt_23
    · replace hf := gd_f hc hf
      refine g_aload_n hC 0 dX2_byteAt_13 rfl rfl ?_
      refine g_get (C := RX2) (T := TX2) (N := 2) (v := .ref aB) hC hinX2 0 0 rfl rfl (by decide) (List.mem_of_getElem? (i := 1) rfl) rfl dX2_byteAt_14 ?_
      refine g_iload_n hC 1 dX2_byteAt_17 rfl rfl ?_
      obtain ⟨hg, hf⟩ := gd_ga hf
      refine g_iald hC 1 0 hg rfl rfl dX2_byteAt_18 ?_
      refine g_goto (tgt := 23) hC dX2_byteAt_19 (by decide) ?_
      exact hQ ((xB j1.toNatClampNeg)) _ _ (gd_s hf) dX2_byteAt_23
theorem kyX2_figure : yX2_figure.cls = RX2 ∧ yX2_figure.cls ≠ "java/lang/invoke/MethodHandle" ∧ yX2_figure.cls ≠ "java/lang/invoke/VarHandle" ∧ (parseMethodDescriptor yX2_figure.desc).map (fun d => d.parameters.length) = some 1 := by decide +kernel
set_option maxHeartbeats 4000000 in
set_option maxRecDepth 100000 in
theorem cX2_figure_m (l : Launch) (D : va_G) (aT aB : Nat) (iB : ClassId) (xT_length : Int32) (xB : Nat → Int32) (j1 : Int32) (z : Int32) (hf : fX2_figure j1 xB = some z) : ∀ sz : Nat, Met l yX2_figure wsX2_figure ({ frames := 1, cells := 0, slots := 0, locals := 21 } : Room) (kPre D [(iB, .int)] [oO aT 1 [.ref aB, .int xT_length], oI aB iB 32 xB] sz [.ref aT, .int j1]) (kQi D [(iB, .int)] [oO aT 1 [.ref aB, .int xT_length], oI aB iB 32 xB] sz [oO aT 1 [.ref aB, .int xT_length], oI aB iB 32 xB] z) 0 0 (va_A [oO aT 1 [.ref aB, .int xT_length], oI aB iB 32 xB] sz) := by
  refine kMet_i (own := RX2) z (fun u => u) (fun u => [oO aT 1 [.ref aB, .int xT_length], oI aB iB 32 xB]) rfl (by decide) rfl ⟨rfl, rfl⟩ (Nat.le_of_ble_eq_true rfl) ?_
  intro X hXl hXD hC hQ
  subst hXl
  subst hXD
  change kG X 0 [(0, .ref aT), (1, .int j1)] [] [oO aT 1 [.ref aB, .int xT_length], oI aB iB 32 xB]
  unfold fX2_figure at hf
  refine g_aload_n hC 0 dX2_figure_0 rfl rfl ?_
  refine g_iload_n hC 1 dX2_figure_1 rfl rfl ?_
  obtain ⟨z2, hz2, hf⟩ := gd_b hf
  refine g_callVi (wr := []) (wn := [oO aT 1 [.ref aB, .int xT_length], oI aB iB 32 xB]) hC [.int j1] (cX2_byteAt_m (kl X) (kD X) aT aB iB xT_length xB j1 z2 hz2) gX2_figure_X2_byteAt rfl kyX2_byteAt rfl rfl rfl (q0 := 0) rfl [0, 1] [] [0] [0, 1] rfl rfl rfl rfl (by decide) rfl rfl rfl ⟨rfl, rfl⟩ ⟨Nat.le_of_ble_eq_true rfl, Nat.le_of_ble_eq_true rfl⟩ (Nat.le_of_ble_eq_true rfl) rfl dX2_figure_2 ?_
  refine g_bipush (v := (48 : Int32)) hC dX2_figure_5 cb_48 ?_
  refine g_isub hC dX2_figure_7 ?_
  exact hQ ((z2 - (48 : Int32))) _ _ (gd_s hf) dX2_figure_8
theorem kyX4_within : yX4_within.cls ≠ "java/lang/invoke/MethodHandle" ∧ yX4_within.cls ≠ "java/lang/invoke/VarHandle" ∧ (parseMethodDescriptor yX4_within.desc).map (fun d => d.parameters.length) = some 3 := by decide +kernel
set_option maxHeartbeats 4000000 in
set_option maxRecDepth 100000 in
theorem cX4_within_m (l : Launch) (D : va_G)  (j0 : Int32) (j1 : Int32) (j2 : Int32) (z : Int32) (hf : fX4_within j0 j1 j2 = some z) : ∀ sz : Nat, Met l yX4_within wsX4_within ({ frames := 0, cells := 0, slots := 0, locals := 0 } : Room) (kPre D [] [] sz [.int j0, .int j1, .int j2]) (kQi D [] [] sz [] z) 0 0 (va_A [] sz) := by
  refine kMet_z (own := RX4) z (fun u => u) (fun u => []) rfl (by decide) rfl ⟨rfl, rfl⟩ (Nat.le_of_ble_eq_true rfl) ?_
  intro X hXl hXD hC hQ
  subst hXl
  subst hXD
  change kG X 0 [(0, .int j0), (1, .int j1), (2, .int j2)] [] []
  unfold fX4_within at hf
  refine g_iload_n hC 0 dX4_within_0 rfl rfl ?_
  refine g_iload_n hC 1 dX4_within_1 rfl rfl ?_
  refine g_icmp_lt (tgt := 14) hC dX4_within_2 (by decide) (fun hc => ?_) (fun hc => ?_)
  · replace hf := gd_t hc hf
    refine g_iconst (v := (0 : Int32)) hC dX4_within_14 ci_0 ?_
    exact hQ ((0 : Int32)) _ _ (gd_s hf) (nz_of (Or.inl rfl)) dX4_within_15
  · replace hf := gd_f hc hf
    refine g_iload_n hC 0 dX4_within_5 rfl rfl ?_
    refine g_iload_n hC 2 dX4_within_6 rfl rfl ?_
    refine g_icmp_gt (tgt := 14) hC dX4_within_7 (by decide) (fun hc => ?_) (fun hc => ?_)
    · replace hf := gd_t hc hf
      refine g_iconst (v := (0 : Int32)) hC dX4_within_14 ci_0 ?_
      exact hQ ((0 : Int32)) _ _ (gd_s hf) (nz_of (Or.inl rfl)) dX4_within_15
    · replace hf := gd_f hc hf
      refine g_iconst (v := (1 : Int32)) hC dX4_within_10 ci_1 ?_
      refine g_goto (tgt := 15) hC dX4_within_11 (by decide) ?_
      exact hQ ((1 : Int32)) _ _ (gd_s hf) (nz_of (Or.inr rfl)) dX4_within_15
theorem kyX2_fitsPart : yX2_fitsPart.cls = RX2 ∧ yX2_fitsPart.cls ≠ "java/lang/invoke/MethodHandle" ∧ yX2_fitsPart.cls ≠ "java/lang/invoke/VarHandle" ∧ (parseMethodDescriptor yX2_fitsPart.desc).map (fun d => d.parameters.length) = some 1 := by decide +kernel
set_option maxHeartbeats 4000000 in
set_option maxRecDepth 100000 in
theorem cX2_fitsPart_m (l : Launch) (D : va_G) (aT aB : Nat) (iB : ClassId) (xT_length : Int32) (xB : Nat → Int32) (j1 : Int32) (z : Int32) (hf : fX2_fitsPart j1 xB = some z) : ∀ sz : Nat, Met l yX2_fitsPart wsX2_fitsPart ({ frames := 2, cells := 0, slots := 0, locals := 42 } : Room) (kPre D [(iB, .int)] [oO aT 1 [.ref aB, .int xT_length], oI aB iB 32 xB] sz [.ref aT, .int j1]) (kQi D [(iB, .int)] [oO aT 1 [.ref aB, .int xT_length], oI aB iB 32 xB] sz [oO aT 1 [.ref aB, .int xT_length], oI aB iB 32 xB] z) 0 0 (va_A [oO aT 1 [.ref aB, .int xT_length], oI aB iB 32 xB] sz) := by
  refine kMet_z (own := RX2) z (fun u => u) (fun u => [oO aT 1 [.ref aB, .int xT_length], oI aB iB 32 xB]) rfl (by decide) rfl ⟨rfl, rfl⟩ (Nat.le_of_ble_eq_true rfl) ?_
  intro X hXl hXD hC hQ
  subst hXl
  subst hXD
  change kG X 0 [(0, .ref aT), (1, .int j1)] [] [oO aT 1 [.ref aB, .int xT_length], oI aB iB 32 xB]
  unfold fX2_fitsPart at hf
  refine g_iload_n hC 1 dX2_fitsPart_0 rfl rfl ?_
  refine g_iconst (v := (3 : Int32)) hC dX2_fitsPart_1 ci_3 ?_
  refine g_isub hC dX2_fitsPart_2 ?_
  refine g_iconst (v := (3 : Int32)) hC dX2_fitsPart_3 ci_3 ?_
  refine g_irem hC dX2_fitsPart_4 (by decide) ?_
  by_cases c0 : ((j1 - (3 : Int32)) - (j1 - (3 : Int32)) / (3 : Int32) * (3 : Int32)) = (0 : Int32)
  · replace hf := gd_t c0 hf
    refine g_lookup (tgt := 32) hC dX2_fitsPart_5 (by decide) (by rw [c0]) (by decide) ?_
    refine g_aload_n hC 0 dX2_fitsPart_32 rfl rfl ?_
    refine g_iload_n hC 1 dX2_fitsPart_33 rfl rfl ?_
    obtain ⟨z34, hz34, hf⟩ := gd_b hf
    refine g_callVi (wr := []) (wn := [oO aT 1 [.ref aB, .int xT_length], oI aB iB 32 xB]) hC [.int j1] (cX2_byteAt_m (kl X) (kD X) aT aB iB xT_length xB j1 z34 hz34) gX2_fitsPart_X2_byteAt rfl kyX2_byteAt rfl rfl rfl (q0 := 0) rfl [0, 1] [] [0] [0, 1] rfl rfl rfl rfl (by decide) rfl rfl rfl ⟨rfl, rfl⟩ ⟨Nat.le_of_ble_eq_true rfl, Nat.le_of_ble_eq_true rfl⟩ (Nat.le_of_ble_eq_true rfl) rfl dX2_fitsPart_34 ?_
    refine g_bipush (v := (87 : Int32)) hC dX2_fitsPart_37 cb_87 ?_
    refine g_icmp_ne (tgt := 46) hC dX2_fitsPart_39 (by decide) (fun hc => ?_) (fun hc => ?_)
    · replace hf := gd_f hc hf
      refine g_iconst (v := (0 : Int32)) hC dX2_fitsPart_46 ci_0 ?_
      exact hQ ((0 : Int32)) _ _ (gd_s hf) (nz_of (Or.inl rfl)) dX2_fitsPart_47
    · replace hf := gd_t hc hf
      refine g_iconst (v := (1 : Int32)) hC dX2_fitsPart_42 ci_1 ?_
      refine g_goto (tgt := 47) hC dX2_fitsPart_43 (by decide) ?_
      exact hQ ((1 : Int32)) _ _ (gd_s hf) (nz_of (Or.inr rfl)) dX2_fitsPart_47
  replace hf := gd_f c0 hf
  by_cases c1 : ((j1 - (3 : Int32)) - (j1 - (3 : Int32)) / (3 : Int32) * (3 : Int32)) = (1 : Int32)
  · replace hf := gd_t c1 hf
    refine g_lookup (tgt := 48) hC dX2_fitsPart_5 (by decide) (by rw [c1]) (by decide) ?_
    refine g_aload_n hC 0 dX2_fitsPart_48 rfl rfl ?_
    refine g_iload_n hC 1 dX2_fitsPart_49 rfl rfl ?_
    obtain ⟨z50, hz50, hf⟩ := gd_b hf
    refine g_callVi (wr := []) (wn := [oO aT 1 [.ref aB, .int xT_length], oI aB iB 32 xB]) hC [.int j1] (cX2_figure_m (kl X) (kD X) aT aB iB xT_length xB j1 z50 hz50) gX2_fitsPart_X2_figure rfl kyX2_figure rfl rfl rfl (q0 := 0) rfl [0, 1] [] [0] [0, 1] rfl rfl rfl rfl (by decide) rfl rfl rfl ⟨rfl, rfl⟩ ⟨Nat.le_of_ble_eq_true rfl, Nat.le_of_ble_eq_true rfl⟩ (Nat.le_of_ble_eq_true rfl) rfl dX2_fitsPart_50 ?_
    refine g_iconst (v := (0 : Int32)) hC dX2_fitsPart_53 ci_0 ?_
    refine g_iconst (v := (5 : Int32)) hC dX2_fitsPart_54 ci_5 ?_
    obtain ⟨z55, hz55, hf⟩ := gd_b hf
    refine g_callNi (wr := [oO aT 1 [.ref aB, .int xT_length], oI aB iB 32 xB]) (wn := [oO aT 1 [.ref aB, .int xT_length], oI aB iB 32 xB]) hC [.int z50, .int (0 : Int32), .int (5 : Int32)] (cX4_within_m (kl X) (kD X) z50 (0 : Int32) (5 : Int32) z55 hz55) gX2_fitsPart_X4_within_n30 rfl kyX4_within rfl hC.2.2.2.2.2.2.1.1 (List.mem_of_getElem? (i := 12) rfl) (List.mem_of_getElem? (i := 11) rfl) [] [0, 1] [] [0, 1] rfl rfl rfl rfl (by decide) rfl rfl rfl ⟨rfl, rfl⟩ ⟨Nat.le_of_ble_eq_true rfl, Nat.le_of_ble_eq_true rfl⟩ (Nat.le_of_ble_eq_true rfl) rfl dX2_fitsPart_55 ?_
    obtain ⟨hg, hf⟩ := gd_gz hf
    exact hQ (z55) _ _ (gd_s hf) (nz_of hg) dX2_fitsPart_58
  replace hf := gd_f c1 hf
  refine g_lookup (off := 54) (tgt := 59) hC dX2_fitsPart_5 (by decide) (by have e0 := lv_neT c0 (a := 0) (by decide); have e1 := lv_neT c1 (a := 1) (by decide); revert e0 e1; generalize Int32.toInt (((j1 - (3 : Int32)) - (j1 - (3 : Int32)) / (3 : Int32) * (3 : Int32))) = t; intro e0 e1; simp [Op.lookupswitch.offset, e0, Ne.symm e0, e1, Ne.symm e1]) (by decide) ?_
  refine g_aload_n hC 0 dX2_fitsPart_59 rfl rfl ?_
  refine g_iload_n hC 1 dX2_fitsPart_60 rfl rfl ?_
  obtain ⟨z61, hz61, hf⟩ := gd_b hf
  refine g_callVi (wr := []) (wn := [oO aT 1 [.ref aB, .int xT_length], oI aB iB 32 xB]) hC [.int j1] (cX2_figure_m (kl X) (kD X) aT aB iB xT_length xB j1 z61 hz61) gX2_fitsPart_X2_figure rfl kyX2_figure rfl rfl rfl (q0 := 0) rfl [0, 1] [] [0] [0, 1] rfl rfl rfl rfl (by decide) rfl rfl rfl ⟨rfl, rfl⟩ ⟨Nat.le_of_ble_eq_true rfl, Nat.le_of_ble_eq_true rfl⟩ (Nat.le_of_ble_eq_true rfl) rfl dX2_fitsPart_61 ?_
  refine g_iconst (v := (0 : Int32)) hC dX2_fitsPart_64 ci_0 ?_
  refine g_iconst (v := (3 : Int32)) hC dX2_fitsPart_65 ci_3 ?_
  obtain ⟨z66, hz66, hf⟩ := gd_b hf
  refine g_callNi (wr := [oO aT 1 [.ref aB, .int xT_length], oI aB iB 32 xB]) (wn := [oO aT 1 [.ref aB, .int xT_length], oI aB iB 32 xB]) hC [.int z61, .int (0 : Int32), .int (3 : Int32)] (cX4_within_m (kl X) (kD X) z61 (0 : Int32) (3 : Int32) z66 hz66) gX2_fitsPart_X4_within_n30 rfl kyX4_within rfl hC.2.2.2.2.2.2.1.1 (List.mem_of_getElem? (i := 12) rfl) (List.mem_of_getElem? (i := 11) rfl) [] [0, 1] [] [0, 1] rfl rfl rfl rfl (by decide) rfl rfl rfl ⟨rfl, rfl⟩ ⟨Nat.le_of_ble_eq_true rfl, Nat.le_of_ble_eq_true rfl⟩ (Nat.le_of_ble_eq_true rfl) rfl dX2_fitsPart_66 ?_
  obtain ⟨hg, hf⟩ := gd_gz hf
  exact hQ (z66) _ _ (gd_s hf) (nz_of hg) dX2_fitsPart_69
theorem kyX2_fits : yX2_fits.cls = RX2 ∧ yX2_fits.cls ≠ "java/lang/invoke/MethodHandle" ∧ yX2_fits.cls ≠ "java/lang/invoke/VarHandle" ∧ (parseMethodDescriptor yX2_fits.desc).map (fun d => d.parameters.length) = some 1 := by decide +kernel
set_option maxHeartbeats 4000000 in
set_option maxRecDepth 100000 in
theorem cX2_fits_m (l : Launch) (D : va_G) (aT aB : Nat) (iB : ClassId) (xT_length : Int32) (xB : Nat → Int32) (j1 : Int32) (z : Int32) (hf : fX2_fits j1 xB = some z) : ∀ sz : Nat, Met l yX2_fits wsX2_fits ({ frames := 3, cells := 0, slots := 0, locals := 63 } : Room) (kPre D [(iB, .int)] [oO aT 1 [.ref aB, .int xT_length], oI aB iB 32 xB] sz [.ref aT, .int j1]) (kQi D [(iB, .int)] [oO aT 1 [.ref aB, .int xT_length], oI aB iB 32 xB] sz [oO aT 1 [.ref aB, .int xT_length], oI aB iB 32 xB] z) 0 0 (va_A [oO aT 1 [.ref aB, .int xT_length], oI aB iB 32 xB] sz) := by
  refine kMet_z (own := RX2) z (fun u => u) (fun u => [oO aT 1 [.ref aB, .int xT_length], oI aB iB 32 xB]) rfl (by decide) rfl ⟨rfl, rfl⟩ (Nat.le_of_ble_eq_true rfl) ?_
  intro X hXl hXD hC hQ
  subst hXl
  subst hXD
  change kG X 0 [(0, .ref aT), (1, .int j1)] [] [oO aT 1 [.ref aB, .int xT_length], oI aB iB 32 xB]
  unfold fX2_fits at hf
  refine g_iload_n hC 1 dX2_fits_0 rfl rfl ?_
  by_cases c0 : j1 = (0 : Int32)
  · replace hf := gd_t c0 hf
    refine g_tableIn (tgt := 28) hC c0 dX2_fits_1 (by decide) (by decide) rfl (by decide) ?_
    refine g_aload_n hC 0 dX2_fits_28 rfl rfl ?_
    refine g_iload_n hC 1 dX2_fits_29 rfl rfl ?_
    obtain ⟨z30, hz30, hf⟩ := gd_b hf
    refine g_callVi (wr := []) (wn := [oO aT 1 [.ref aB, .int xT_length], oI aB iB 32 xB]) hC [.int j1] (cX2_byteAt_m (kl X) (kD X) aT aB iB xT_length xB j1 z30 hz30) gX2_fits_X2_byteAt rfl kyX2_byteAt rfl rfl rfl (q0 := 0) rfl [0, 1] [] [0] [0, 1] rfl rfl rfl rfl (by decide) rfl rfl rfl ⟨rfl, rfl⟩ ⟨Nat.le_of_ble_eq_true rfl, Nat.le_of_ble_eq_true rfl⟩ (Nat.le_of_ble_eq_true rfl) rfl dX2_fits_30 ?_
    refine g_bipush (v := (71 : Int32)) hC dX2_fits_33 cb_71 ?_
    refine g_icmp_ne (tgt := 42) hC dX2_fits_35 (by decide) (fun hc => ?_) (fun hc => ?_)
    · replace hf := gd_f hc hf
      refine g_iconst (v := (0 : Int32)) hC dX2_fits_42 ci_0 ?_
      exact hQ ((0 : Int32)) _ _ (gd_s hf) (nz_of (Or.inl rfl)) dX2_fits_43
    · replace hf := gd_t hc hf
      refine g_iconst (v := (1 : Int32)) hC dX2_fits_38 ci_1 ?_
      refine g_goto (tgt := 43) hC dX2_fits_39 (by decide) ?_
      exact hQ ((1 : Int32)) _ _ (gd_s hf) (nz_of (Or.inr rfl)) dX2_fits_43
  replace hf := gd_f c0 hf
  by_cases c1 : j1 = (1 : Int32)
  · replace hf := gd_t c1 hf
    refine g_tableIn (tgt := 44) hC c1 dX2_fits_1 (by decide) (by decide) rfl (by decide) ?_
    refine g_aload_n hC 0 dX2_fits_44 rfl rfl ?_
    refine g_iload_n hC 1 dX2_fits_45 rfl rfl ?_
    obtain ⟨z46, hz46, hf⟩ := gd_b hf
    refine g_callVi (wr := []) (wn := [oO aT 1 [.ref aB, .int xT_length], oI aB iB 32 xB]) hC [.int j1] (cX2_figure_m (kl X) (kD X) aT aB iB xT_length xB j1 z46 hz46) gX2_fits_X2_figure rfl kyX2_figure rfl rfl rfl (q0 := 0) rfl [0, 1] [] [0] [0, 1] rfl rfl rfl rfl (by decide) rfl rfl rfl ⟨rfl, rfl⟩ ⟨Nat.le_of_ble_eq_true rfl, Nat.le_of_ble_eq_true rfl⟩ (Nat.le_of_ble_eq_true rfl) rfl dX2_fits_46 ?_
    refine g_iconst (v := (1 : Int32)) hC dX2_fits_49 ci_1 ?_
    refine g_bipush (v := (9 : Int32)) hC dX2_fits_50 cb_9 ?_
    obtain ⟨z52, hz52, hf⟩ := gd_b hf
    refine g_callNi (wr := [oO aT 1 [.ref aB, .int xT_length], oI aB iB 32 xB]) (wn := [oO aT 1 [.ref aB, .int xT_length], oI aB iB 32 xB]) hC [.int z46, .int (1 : Int32), .int (9 : Int32)] (cX4_within_m (kl X) (kD X) z46 (1 : Int32) (9 : Int32) z52 hz52) gX2_fits_X4_within_n30 rfl kyX4_within rfl hC.2.2.2.2.2.2.1.1 (List.mem_of_getElem? (i := 12) rfl) (List.mem_of_getElem? (i := 11) rfl) [] [0, 1] [] [0, 1] rfl rfl rfl rfl (by decide) rfl rfl rfl ⟨rfl, rfl⟩ ⟨Nat.le_of_ble_eq_true rfl, Nat.le_of_ble_eq_true rfl⟩ (Nat.le_of_ble_eq_true rfl) rfl dX2_fits_52 ?_
    obtain ⟨hg, hf⟩ := gd_gz hf
    exact hQ (z52) _ _ (gd_s hf) (nz_of hg) dX2_fits_55
  replace hf := gd_f c1 hf
  by_cases c2 : j1 = (2 : Int32)
  · replace hf := gd_t c2 hf
    refine g_tableIn (tgt := 56) hC c2 dX2_fits_1 (by decide) (by decide) rfl (by decide) ?_
    refine g_aload_n hC 0 dX2_fits_56 rfl rfl ?_
    refine g_iload_n hC 1 dX2_fits_57 rfl rfl ?_
    obtain ⟨z58, hz58, hf⟩ := gd_b hf
    refine g_callVi (wr := []) (wn := [oO aT 1 [.ref aB, .int xT_length], oI aB iB 32 xB]) hC [.int j1] (cX2_figure_m (kl X) (kD X) aT aB iB xT_length xB j1 z58 hz58) gX2_fits_X2_figure rfl kyX2_figure rfl rfl rfl (q0 := 0) rfl [0, 1] [] [0] [0, 1] rfl rfl rfl rfl (by decide) rfl rfl rfl ⟨rfl, rfl⟩ ⟨Nat.le_of_ble_eq_true rfl, Nat.le_of_ble_eq_true rfl⟩ (Nat.le_of_ble_eq_true rfl) rfl dX2_fits_58 ?_
    refine g_iconst (v := (0 : Int32)) hC dX2_fits_61 ci_0 ?_
    refine g_bipush (v := (9 : Int32)) hC dX2_fits_62 cb_9 ?_
    obtain ⟨z64, hz64, hf⟩ := gd_b hf
    refine g_callNi (wr := [oO aT 1 [.ref aB, .int xT_length], oI aB iB 32 xB]) (wn := [oO aT 1 [.ref aB, .int xT_length], oI aB iB 32 xB]) hC [.int z58, .int (0 : Int32), .int (9 : Int32)] (cX4_within_m (kl X) (kD X) z58 (0 : Int32) (9 : Int32) z64 hz64) gX2_fits_X4_within_n30 rfl kyX4_within rfl hC.2.2.2.2.2.2.1.1 (List.mem_of_getElem? (i := 12) rfl) (List.mem_of_getElem? (i := 11) rfl) [] [0, 1] [] [0, 1] rfl rfl rfl rfl (by decide) rfl rfl rfl ⟨rfl, rfl⟩ ⟨Nat.le_of_ble_eq_true rfl, Nat.le_of_ble_eq_true rfl⟩ (Nat.le_of_ble_eq_true rfl) rfl dX2_fits_64 ?_
    obtain ⟨hg, hf⟩ := gd_gz hf
    exact hQ (z64) _ _ (gd_s hf) (nz_of hg) dX2_fits_67
  replace hf := gd_f c2 hf
  refine g_tableOut (tgt := 68) hC dX2_fits_1 (by have e0 := lv_neT c0 (a := 0) (by decide); have e1 := lv_neT c1 (a := 1) (by decide); have e2 := lv_neT c2 (a := 2) (by decide); omega) (by decide) ?_
  refine g_iload_n hC 1 dX2_fits_68 rfl rfl ?_
  refine g_bipush (v := (18 : Int32)) hC dX2_fits_69 cb_18 ?_
  refine g_icmp_ge (tgt := 86) hC dX2_fits_71 (by decide) (fun hc => ?_) (fun hc => ?_)
  · replace hf := gd_t hc hf
    refine g_iconst (v := (0 : Int32)) hC dX2_fits_86 ci_0 ?_
    exact hQ ((0 : Int32)) _ _ (gd_s hf) (nz_of (Or.inl rfl)) dX2_fits_87
  · replace hf := gd_f hc hf
    refine g_aload_n hC 0 dX2_fits_74 rfl rfl ?_
    refine g_iload_n hC 1 dX2_fits_75 rfl rfl ?_
    obtain ⟨z76, hz76, hf⟩ := gd_b hf
    refine g_callVi (wr := []) (wn := [oO aT 1 [.ref aB, .int xT_length], oI aB iB 32 xB]) hC [.int j1] (cX2_fitsPart_m (kl X) (kD X) aT aB iB xT_length xB j1 z76 hz76) gX2_fits_X2_fitsPart rfl kyX2_fitsPart rfl rfl rfl (q0 := 0) rfl [0, 1] [] [0] [0, 1] rfl rfl rfl rfl (by decide) rfl rfl rfl ⟨rfl, rfl⟩ ⟨Nat.le_of_ble_eq_true rfl, Nat.le_of_ble_eq_true rfl⟩ (Nat.le_of_ble_eq_true rfl) rfl dX2_fits_76 ?_
    refine g_if_eq (tgt := 86) hC dX2_fits_79 (by decide) (fun hc => ?_) (fun hc => ?_)
    · replace hf := gd_t hc hf
      refine g_iconst (v := (0 : Int32)) hC dX2_fits_86 ci_0 ?_
      exact hQ ((0 : Int32)) _ _ (gd_s hf) (nz_of (Or.inl rfl)) dX2_fits_87
    · replace hf := gd_f hc hf
      refine g_iconst (v := (1 : Int32)) hC dX2_fits_82 ci_1 ?_
      refine g_goto (tgt := 87) hC dX2_fits_83 (by decide) ?_
      exact hQ ((1 : Int32)) _ _ (gd_s hf) (nz_of (Or.inr rfl)) dX2_fits_87
theorem kyX2_firstFault : yX2_firstFault.cls = RX2 ∧ yX2_firstFault.cls ≠ "java/lang/invoke/MethodHandle" ∧ yX2_firstFault.cls ≠ "java/lang/invoke/VarHandle" ∧ (parseMethodDescriptor yX2_firstFault.desc).map (fun d => d.parameters.length) = some 0 := by decide +kernel
set_option maxHeartbeats 4000000 in
set_option maxRecDepth 100000 in
theorem cX2_firstFault_m (l : Launch) (D : va_G) (aT aB : Nat) (iB : ClassId) (xT_length : Int32) (xB : Nat → Int32)  (z : Int32) (hf : fX2_firstFault xT_length xB = some z) : ∀ sz : Nat, Met l yX2_firstFault wsX2_firstFault ({ frames := 4, cells := 0, slots := 0, locals := 84 } : Room) (kPre D [(iB, .int)] [oO aT 1 [.ref aB, .int xT_length], oI aB iB 32 xB] sz [.ref aT]) (kQi D [(iB, .int)] [oO aT 1 [.ref aB, .int xT_length], oI aB iB 32 xB] sz [oO aT 1 [.ref aB, .int xT_length], oI aB iB 32 xB] z) 0 0 (va_A [oO aT 1 [.ref aB, .int xT_length], oI aB iB 32 xB] sz) := by
  refine kMet_i (own := RX2) z (fun u => u) (fun u => [oO aT 1 [.ref aB, .int xT_length], oI aB iB 32 xB]) rfl (by decide) rfl ⟨rfl, rfl⟩ (Nat.le_of_ble_eq_true rfl) ?_
  intro X hXl hXD hC hQ
  subst hXl
  subst hXD
  change kG X 0 [(0, .ref aT)] [] [oO aT 1 [.ref aB, .int xT_length], oI aB iB 32 xB]
  have hinX2 : ∀ w ∈ wsX20, w ∈ wsX2_firstFault := fun _ h => List.mem_cons_of_mem _ (List.mem_append_right _ h)
  have t50 : ∀  (y0 : Int32), fX2_firstFault_b50 xT_length xB  y0 = some z → kG X 50 [(0, .ref aT)] [.int y0] [oO aT 1 [.ref aB, .int xT_length], oI aB iB 32 xB] := by
    intro y0 hf
    unfold fX2_firstFault_b50 at hf
    refine g_istore_n (lv' := [(1, .int y0), (0, .ref aT)]) hC dX2_firstFault_50 rfl (by decide) rfl ?_
    refine g_iload_n hC 0 dX2_firstFault_51 rfl rfl ?_
    refine g_if_eq (tgt := 60) hC dX2_firstFault_52 (by decide) (fun hc => ?_) (fun hc => ?_)
    · replace hf := gd_t hc hf
      refine g_aload_n hC 1 dX2_firstFault_60 rfl rfl ?_
      refine g_get (C := RX2) (T := TX2) (N := 2) (v := .int xT_length) hC hinX2 0 1 rfl rfl (by decide) (List.mem_of_getElem? (i := 1) rfl) rfl dX2_firstFault_61 ?_
      exact hQ (xT_length) _ _ (gd_s hf) dX2_firstFault_64
    · replace hf := gd_f hc hf
      refine g_bipush (v := (-9 : Int32)) hC dX2_firstFault_55 cb_m9 ?_
      refine g_goto (tgt := 64) hC dX2_firstFault_57 (by decide) ?_
      exact hQ ((-9 : Int32)) _ _ (gd_s hf) dX2_firstFault_64
  have t49 : fX2_firstFault_b49 xT_length xB = some z → kG X 49 [(0, .ref aT)] [] [oO aT 1 [.ref aB, .int xT_length], oI aB iB 32 xB] := by
    intro  hf
    unfold fX2_firstFault_b49 at hf
    refine g_iconst (v := (0 : Int32)) hC dX2_firstFault_49 ci_0 ?_
    exact t50  (0 : Int32) hf
  have t2 : ∀  (n : Nat) (j1 : Int32), lp (fun _ => none) (fX2_firstFault_b2_S xT_length xB ) n j1 = some z → kG X 2 [(0, .ref aT), (1, .int j1)] [] [oO aT 1 [.ref aB, .int xT_length], oI aB iB 32 xB] := by
    intro  n
    induction n with
    | zero => intro j1 hf; cases hf
    | succ n hk2 =>
      intro j1 hf
      rw [lp_s] at hf
      revert hf hk2
      generalize lp (fun _ => none) (fX2_firstFault_b2_S xT_length xB ) n = k2
      intro hk2 hf
      unfold fX2_firstFault_b2_S at hf
      refine g_iload_n hC 1 dX2_firstFault_2 rfl rfl ?_
      refine g_aload_n hC 0 dX2_firstFault_3 rfl rfl ?_
      refine g_get (C := RX2) (T := TX2) (N := 2) (v := .int xT_length) hC hinX2 0 1 rfl rfl (by decide) (List.mem_of_getElem? (i := 1) rfl) rfl dX2_firstFault_4 ?_
      refine g_icmp_ge (tgt := 26) hC dX2_firstFault_7 (by decide) (fun hc => ?_) (fun hc => ?_)
      · replace hf := gd_t hc hf
        refine g_aload_n hC 0 dX2_firstFault_26 rfl rfl ?_
        refine g_get (C := RX2) (T := TX2) (N := 2) (v := .int xT_length) hC hinX2 0 1 rfl rfl (by decide) (List.mem_of_getElem? (i := 1) rfl) rfl dX2_firstFault_27 ?_
        refine g_iconst (v := (3 : Int32)) hC dX2_firstFault_30 ci_3 ?_
        refine g_icmp_lt (tgt := 49) hC dX2_firstFault_31 (by decide) (fun hc => ?_) (fun hc => ?_)
        · replace hf := gd_t hc hf
          refine g_lv (lv' := [(0, .ref aT)]) [0] rfl ?_
          exact t49   hf
        · replace hf := gd_f hc hf
          refine g_aload_n hC 0 dX2_firstFault_34 rfl rfl ?_
          refine g_get (C := RX2) (T := TX2) (N := 2) (v := .int xT_length) hC hinX2 0 1 rfl rfl (by decide) (List.mem_of_getElem? (i := 1) rfl) rfl dX2_firstFault_35 ?_
          refine g_iconst (v := (3 : Int32)) hC dX2_firstFault_38 ci_3 ?_
          refine g_isub hC dX2_firstFault_39 ?_
          refine g_iconst (v := (3 : Int32)) hC dX2_firstFault_40 ci_3 ?_
          refine g_irem hC dX2_firstFault_41 (by decide) ?_
          refine g_if_ne (tgt := 49) hC dX2_firstFault_42 (by decide) (fun hc => ?_) (fun hc => ?_)
          · replace hf := gd_f hc hf
            refine g_lv (lv' := [(0, .ref aT)]) [0] rfl ?_
            exact t49   hf
          · replace hf := gd_t hc hf
            refine g_iconst (v := (1 : Int32)) hC dX2_firstFault_45 ci_1 ?_
            refine g_goto (tgt := 50) hC dX2_firstFault_46 (by decide) ?_
            refine g_lv (lv' := [(0, .ref aT)]) [0] rfl ?_
            exact t50  (1 : Int32) hf
      · replace hf := gd_f hc hf
        refine g_aload_n hC 0 dX2_firstFault_10 rfl rfl ?_
        refine g_iload_n hC 1 dX2_firstFault_11 rfl rfl ?_
        obtain ⟨z12, hz12, hf⟩ := gd_b hf
        refine g_callVi (wr := []) (wn := [oO aT 1 [.ref aB, .int xT_length], oI aB iB 32 xB]) hC [.int j1] (cX2_fits_m (kl X) (kD X) aT aB iB xT_length xB j1 z12 hz12) gX2_firstFault_X2_fits rfl kyX2_fits rfl rfl rfl (q0 := 0) rfl [0, 1] [] [0] [0, 1] rfl rfl rfl rfl (by decide) rfl rfl rfl ⟨rfl, rfl⟩ ⟨Nat.le_of_ble_eq_true rfl, Nat.le_of_ble_eq_true rfl⟩ (Nat.le_of_ble_eq_true rfl) rfl dX2_firstFault_12 ?_
        refine g_if_ne (tgt := 20) hC dX2_firstFault_15 (by decide) (fun hc => ?_) (fun hc => ?_)
        · replace hf := gd_f hc hf
          refine g_iinc (v := (j1 + (1 : Int32))) (lv' := [(1, .int (j1 + (1 : Int32))), (0, .ref aT)]) hC 1 dX2_firstFault_20 rfl (ii _ ci_1) (by decide) rfl ?_
          refine g_goto (tgt := 2) hC dX2_firstFault_23 (by decide) ?_
          refine g_lv (lv' := [(0, .ref aT), (1, .int (j1 + (1 : Int32)))]) [1, 0] rfl ?_
          exact hk2 (j1 + (1 : Int32)) hf
        · replace hf := gd_t hc hf
          refine g_iload_n hC 1 dX2_firstFault_18 rfl rfl ?_
          exact hQ (j1) _ _ (gd_s hf) dX2_firstFault_19
  unfold fX2_firstFault at hf
  refine g_iconst (v := (0 : Int32)) hC dX2_firstFault_0 ci_0 ?_
  refine g_istore_n (lv' := [(1, .int (0 : Int32)), (0, .ref aT)]) hC dX2_firstFault_1 rfl (by decide) rfl ?_
  refine g_lv (lv' := [(0, .ref aT), (1, .int (0 : Int32))]) [1, 0] rfl ?_
  exact t2  fu (0 : Int32) hf
theorem kyX2_parts : yX2_parts.cls = RX2 ∧ yX2_parts.cls ≠ "java/lang/invoke/MethodHandle" ∧ yX2_parts.cls ≠ "java/lang/invoke/VarHandle" ∧ (parseMethodDescriptor yX2_parts.desc).map (fun d => d.parameters.length) = some 0 := by decide +kernel
set_option maxHeartbeats 4000000 in
set_option maxRecDepth 100000 in
theorem cX2_parts_m (l : Launch) (D : va_G) (aT aB : Nat) (xT_length : Int32)  (z : Int32) (hf : fX2_parts xT_length = some z) : ∀ sz : Nat, Met l yX2_parts wsX2_parts ({ frames := 0, cells := 0, slots := 0, locals := 0 } : Room) (kPre D [] [oO aT 1 [.ref aB, .int xT_length]] sz [.ref aT]) (kQi D [] [oO aT 1 [.ref aB, .int xT_length]] sz [oO aT 1 [.ref aB, .int xT_length]] z) 0 0 (va_A [oO aT 1 [.ref aB, .int xT_length]] sz) := by
  refine kMet_i (own := RX2) z (fun u => u) (fun u => [oO aT 1 [.ref aB, .int xT_length]]) rfl (by decide) rfl ⟨rfl, rfl⟩ (Nat.le_of_ble_eq_true rfl) ?_
  intro X hXl hXD hC hQ
  subst hXl
  subst hXD
  change kG X 0 [(0, .ref aT)] [] [oO aT 1 [.ref aB, .int xT_length]]
  have hinX2 : ∀ w ∈ wsX20, w ∈ wsX2_parts := fun _ h => List.mem_cons_of_mem _ (List.mem_append_right _ h)
  unfold fX2_parts at hf
  refine g_aload_n hC 0 dX2_parts_0 rfl rfl ?_
  refine g_get (C := RX2) (T := TX2) (N := 2) (v := .int xT_length) hC hinX2 0 1 rfl rfl (by decide) (List.mem_of_getElem? (i := 1) rfl) rfl dX2_parts_1 ?_
  refine g_iconst (v := (3 : Int32)) hC dX2_parts_4 ci_3 ?_
  refine g_isub hC dX2_parts_5 ?_
  refine g_iconst (v := (3 : Int32)) hC dX2_parts_6 ci_3 ?_
  refine g_idiv hC dX2_parts_7 (by decide) ?_
  exact hQ (((xT_length - (3 : Int32)) / (3 : Int32))) _ _ (gd_s hf) dX2_parts_8
theorem kyX2_nerve : yX2_nerve.cls = RX2 ∧ yX2_nerve.cls ≠ "java/lang/invoke/MethodHandle" ∧ yX2_nerve.cls ≠ "java/lang/invoke/VarHandle" ∧ (parseMethodDescriptor yX2_nerve.desc).map (fun d => d.parameters.length) = some 1 := by decide +kernel
set_option maxHeartbeats 4000000 in
set_option maxRecDepth 100000 in
theorem cX2_nerve_m (l : Launch) (D : va_G) (aT aB : Nat) (iB : ClassId) (xT_length : Int32) (xB : Nat → Int32) (j1 : Int32) (z : Int32) (hf : fX2_nerve j1 xB = some z) : ∀ sz : Nat, Met l yX2_nerve wsX2_nerve ({ frames := 2, cells := 0, slots := 0, locals := 42 } : Room) (kPre D [(iB, .int)] [oO aT 1 [.ref aB, .int xT_length], oI aB iB 32 xB] sz [.ref aT, .int j1]) (kQi D [(iB, .int)] [oO aT 1 [.ref aB, .int xT_length], oI aB iB 32 xB] sz [oO aT 1 [.ref aB, .int xT_length], oI aB iB 32 xB] z) 0 0 (va_A [oO aT 1 [.ref aB, .int xT_length], oI aB iB 32 xB] sz) := by
  refine kMet_i (own := RX2) z (fun u => u) (fun u => [oO aT 1 [.ref aB, .int xT_length], oI aB iB 32 xB]) rfl (by decide) rfl ⟨rfl, rfl⟩ (Nat.le_of_ble_eq_true rfl) ?_
  intro X hXl hXD hC hQ
  subst hXl
  subst hXD
  change kG X 0 [(0, .ref aT), (1, .int j1)] [] [oO aT 1 [.ref aB, .int xT_length], oI aB iB 32 xB]
  unfold fX2_nerve at hf
  refine g_aload_n hC 0 dX2_nerve_0 rfl rfl ?_
  refine g_iconst (v := (3 : Int32)) hC dX2_nerve_1 ci_3 ?_
  refine g_iload_n hC 1 dX2_nerve_2 rfl rfl ?_
  refine g_iconst (v := (3 : Int32)) hC dX2_nerve_3 ci_3 ?_
  refine g_imul hC dX2_nerve_4 ?_
  refine g_iadd hC dX2_nerve_5 ?_
  refine g_iconst (v := (1 : Int32)) hC dX2_nerve_6 ci_1 ?_
  refine g_iadd hC dX2_nerve_7 ?_
  obtain ⟨z8, hz8, hf⟩ := gd_b hf
  refine g_callVi (wr := []) (wn := [oO aT 1 [.ref aB, .int xT_length], oI aB iB 32 xB]) hC [.int (((3 : Int32) + (j1 * (3 : Int32))) + (1 : Int32))] (cX2_figure_m (kl X) (kD X) aT aB iB xT_length xB (((3 : Int32) + (j1 * (3 : Int32))) + (1 : Int32)) z8 hz8) gX2_nerve_X2_figure rfl kyX2_figure rfl rfl rfl (q0 := 0) rfl [0, 1] [] [0] [0, 1] rfl rfl rfl rfl (by decide) rfl rfl rfl ⟨rfl, rfl⟩ ⟨Nat.le_of_ble_eq_true rfl, Nat.le_of_ble_eq_true rfl⟩ (Nat.le_of_ble_eq_true rfl) rfl dX2_nerve_8 ?_
  exact hQ (z8) _ _ (gd_s hf) dX2_nerve_11
theorem kyX2_kind : yX2_kind.cls = RX2 ∧ yX2_kind.cls ≠ "java/lang/invoke/MethodHandle" ∧ yX2_kind.cls ≠ "java/lang/invoke/VarHandle" ∧ (parseMethodDescriptor yX2_kind.desc).map (fun d => d.parameters.length) = some 1 := by decide +kernel
set_option maxHeartbeats 4000000 in
set_option maxRecDepth 100000 in
theorem cX2_kind_m (l : Launch) (D : va_G) (aT aB : Nat) (iB : ClassId) (xT_length : Int32) (xB : Nat → Int32) (j1 : Int32) (z : Int32) (hf : fX2_kind j1 xB = some z) : ∀ sz : Nat, Met l yX2_kind wsX2_kind ({ frames := 2, cells := 0, slots := 0, locals := 42 } : Room) (kPre D [(iB, .int)] [oO aT 1 [.ref aB, .int xT_length], oI aB iB 32 xB] sz [.ref aT, .int j1]) (kQi D [(iB, .int)] [oO aT 1 [.ref aB, .int xT_length], oI aB iB 32 xB] sz [oO aT 1 [.ref aB, .int xT_length], oI aB iB 32 xB] z) 0 0 (va_A [oO aT 1 [.ref aB, .int xT_length], oI aB iB 32 xB] sz) := by
  refine kMet_i (own := RX2) z (fun u => u) (fun u => [oO aT 1 [.ref aB, .int xT_length], oI aB iB 32 xB]) rfl (by decide) rfl ⟨rfl, rfl⟩ (Nat.le_of_ble_eq_true rfl) ?_
  intro X hXl hXD hC hQ
  subst hXl
  subst hXD
  change kG X 0 [(0, .ref aT), (1, .int j1)] [] [oO aT 1 [.ref aB, .int xT_length], oI aB iB 32 xB]
  unfold fX2_kind at hf
  refine g_aload_n hC 0 dX2_kind_0 rfl rfl ?_
  refine g_iconst (v := (3 : Int32)) hC dX2_kind_1 ci_3 ?_
  refine g_iload_n hC 1 dX2_kind_2 rfl rfl ?_
  refine g_iconst (v := (3 : Int32)) hC dX2_kind_3 ci_3 ?_
  refine g_imul hC dX2_kind_4 ?_
  refine g_iadd hC dX2_kind_5 ?_
  refine g_iconst (v := (2 : Int32)) hC dX2_kind_6 ci_2 ?_
  refine g_iadd hC dX2_kind_7 ?_
  obtain ⟨z8, hz8, hf⟩ := gd_b hf
  refine g_callVi (wr := []) (wn := [oO aT 1 [.ref aB, .int xT_length], oI aB iB 32 xB]) hC [.int (((3 : Int32) + (j1 * (3 : Int32))) + (2 : Int32))] (cX2_figure_m (kl X) (kD X) aT aB iB xT_length xB (((3 : Int32) + (j1 * (3 : Int32))) + (2 : Int32)) z8 hz8) gX2_kind_X2_figure rfl kyX2_figure rfl rfl rfl (q0 := 0) rfl [0, 1] [] [0] [0, 1] rfl rfl rfl rfl (by decide) rfl rfl rfl ⟨rfl, rfl⟩ ⟨Nat.le_of_ble_eq_true rfl, Nat.le_of_ble_eq_true rfl⟩ (Nat.le_of_ble_eq_true rfl) rfl dX2_kind_8 ?_
  exact hQ (z8) _ _ (gd_s hf) dX2_kind_11
theorem kyX1_read : yX1_read.cls = RX1 ∧ yX1_read.cls ≠ "java/lang/invoke/MethodHandle" ∧ yX1_read.cls ≠ "java/lang/invoke/VarHandle" ∧ (parseMethodDescriptor yX1_read.desc).map (fun d => d.parameters.length) = some 1 := by decide +kernel
set_option maxHeartbeats 4000000 in
set_option maxRecDepth 100000 in
theorem cX1_read_m (l : Launch) (D : va_G) (aT aB aP : Nat) (iB : ClassId) (xT_length : Int32) (xB : Nat → Int32) (xP_walkers : Int32) (xP_light : Int32) (xP_water : Int32) (xP_nerves : Int32) (xP_kinds : Int32)  (z : Int32 × Int32 × Int32 × Int32 × Int32) (hf : fX1_read xT_length xB xP_walkers xP_light xP_water xP_nerves xP_kinds = some z) : ∀ sz : Nat, Met l yX1_read wsX1_read ({ frames := 3, cells := 0, slots := 0, locals := 63 } : Room) (kPre D [(iB, .int)] [oO aT 1 [.ref aB, .int xT_length], oI aB iB 32 xB, oO aP 0 [.int xP_walkers, .int xP_light, .int xP_water, .int xP_nerves, .int xP_kinds]] sz [.ref aP, .ref aT]) (kQv D [(iB, .int)] [oO aT 1 [.ref aB, .int xT_length], oI aB iB 32 xB, oO aP 0 [.int xP_walkers, .int xP_light, .int xP_water, .int xP_nerves, .int xP_kinds]] sz [oO aT 1 [.ref aB, .int xT_length], oI aB iB 32 xB, oO aP 0 [.int z.1, .int z.2.1, .int z.2.2.1, .int z.2.2.2.1, .int z.2.2.2.2]]) 0 0 (va_A [oO aT 1 [.ref aB, .int xT_length], oI aB iB 32 xB, oO aP 0 [.int xP_walkers, .int xP_light, .int xP_water, .int xP_nerves, .int xP_kinds]] sz) := by
  refine kMet_v (own := RX1) z (fun u => [oO aT 1 [.ref aB, .int xT_length], oI aB iB 32 xB, oO aP 0 [.int u.1, .int u.2.1, .int u.2.2.1, .int u.2.2.2.1, .int u.2.2.2.2]]) rfl (by decide) rfl ⟨rfl, rfl⟩ (Nat.le_of_ble_eq_true rfl) ?_
  intro X hXl hXD hC hQ
  subst hXl
  subst hXD
  change kG X 0 [(0, .ref aP), (1, .ref aT)] [] [oO aT 1 [.ref aB, .int xT_length], oI aB iB 32 xB, oO aP 0 [.int xP_walkers, .int xP_light, .int xP_water, .int xP_nerves, .int xP_kinds]]
  have hinX1 : ∀ w ∈ wsX10, w ∈ wsX1_read := fun _ h => List.mem_cons_of_mem _ (List.mem_append_left _ (List.mem_append_right _ h))
  have t28 : ∀  (n : Nat) (j2 : Int32) (xP_walkers : Int32) (xP_light : Int32) (xP_water : Int32) (xP_nerves : Int32) (xP_kinds : Int32), lp (fun _ _ _ _ _ _ => none) (fX1_read_b28_S xT_length xB ) n j2 xP_walkers xP_light xP_water xP_nerves xP_kinds = some z → kG X 28 [(0, .ref aP), (1, .ref aT), (2, .int j2)] [] [oO aT 1 [.ref aB, .int xT_length], oI aB iB 32 xB, oO aP 0 [.int xP_walkers, .int xP_light, .int xP_water, .int xP_nerves, .int xP_kinds]] := by
    intro  n
    induction n with
    | zero => intro j2 xP_walkers xP_light xP_water xP_nerves xP_kinds hf; cases hf
    | succ n hk28 =>
      intro j2 xP_walkers xP_light xP_water xP_nerves xP_kinds hf
      rw [lp_s] at hf
      revert hf hk28
      generalize lp (fun _ _ _ _ _ _ => none) (fX1_read_b28_S xT_length xB ) n = k28
      intro hk28 hf
      unfold fX1_read_b28_S at hf
      refine g_iload_n hC 2 dX1_read_28 rfl rfl ?_
      refine g_aload_n hC 0 dX1_read_29 rfl rfl ?_
      refine g_get (C := RX1) (T := TX1) (N := 5) (v := .int xP_walkers) hC hinX1 2 0 rfl rfl (by decide) (List.mem_of_getElem? (i := 3) rfl) rfl dX1_read_30 ?_
      refine g_icmp_ge (tgt := 76) hC dX1_read_33 (by decide) (fun hc => ?_) (fun hc => ?_)
      · replace hf := gd_t hc hf
        exact hQ (xP_walkers, xP_light, xP_water, xP_nerves, xP_kinds) _ _ (gd_s hf) dX1_read_76
      · replace hf := gd_f hc hf
        refine g_aload_n hC 0 dX1_read_36 rfl rfl ?_
        refine g_aload_n hC 0 dX1_read_37 rfl rfl ?_
        refine g_get (C := RX1) (T := TX1) (N := 5) (v := .int xP_nerves) hC hinX1 2 3 rfl rfl (by decide) (List.mem_of_getElem? (i := 4) rfl) rfl dX1_read_38 ?_
        refine g_iload_n hC 2 dX1_read_41 rfl rfl ?_
        refine g_aload_n hC 1 dX1_read_42 rfl rfl ?_
        refine g_iload_n hC 2 dX1_read_43 rfl rfl ?_
        obtain ⟨z44, hz44, hf⟩ := gd_b hf
        refine g_callVi (wr := [oO aP 0 [.int xP_walkers, .int xP_light, .int xP_water, .int xP_nerves, .int xP_kinds]]) (wn := [oO aT 1 [.ref aB, .int xT_length], oI aB iB 32 xB, oO aP 0 [.int xP_walkers, .int xP_light, .int xP_water, .int xP_nerves, .int xP_kinds]]) hC [.int j2] (cX2_nerve_m (kl X) (kD X) aT aB iB xT_length xB j2 z44 hz44) gX1_read_X2_nerve rfl kyX2_nerve rfl rfl rfl (q0 := 0) rfl [0, 1] [2] [0] [1, 2, 0] rfl rfl rfl rfl (by decide) rfl rfl rfl ⟨rfl, rfl⟩ ⟨Nat.le_of_ble_eq_true rfl, Nat.le_of_ble_eq_true rfl⟩ (Nat.le_of_ble_eq_true rfl) rfl dX1_read_44 ?_
        obtain ⟨z47, hz47, hf⟩ := gd_b hf
        refine g_callSi (wr := [oO aT 1 [.ref aB, .int xT_length], oI aB iB 32 xB, oO aP 0 [.int xP_walkers, .int xP_light, .int xP_water, .int xP_nerves, .int xP_kinds]]) (wn := [oO aT 1 [.ref aB, .int xT_length], oI aB iB 32 xB, oO aP 0 [.int xP_walkers, .int xP_light, .int xP_water, .int xP_nerves, .int xP_kinds]]) hC [.int xP_nerves, .int j2, .int z44] (cX0_with_m (kl X) (kD X) xP_nerves j2 z44 z47 hz47) gX1_read_X0_with rfl kyX0_with rfl [] [0, 1, 2] [] [0, 1, 2] rfl rfl rfl rfl (by decide) rfl rfl rfl ⟨rfl, rfl⟩ ⟨Nat.le_of_ble_eq_true rfl, Nat.le_of_ble_eq_true rfl⟩ (Nat.le_of_ble_eq_true rfl) rfl dX1_read_47 ?_
        refine g_put (C := RX1) (T := TX1) (N := 5) (ty := .int) (ws' := [oO aT 1 [.ref aB, .int xT_length], oI aB iB 32 xB, oO aP 0 [.int xP_walkers, .int xP_light, .int xP_water, .int z47, .int xP_kinds]]) hC tyX1_ok nmX1 hinX1 2 3 rfl rfl (by decide) (List.mem_of_getElem? (i := 4) rfl) rfl rfl rfl rfl (Nat.le_of_ble_eq_true rfl) dX1_read_50 rfl ?_
        refine g_aload_n hC 0 dX1_read_53 rfl rfl ?_
        refine g_aload_n hC 0 dX1_read_54 rfl rfl ?_
        refine g_get (C := RX1) (T := TX1) (N := 5) (v := .int xP_kinds) hC hinX1 2 4 rfl rfl (by decide) (List.mem_of_getElem? (i := 5) rfl) rfl dX1_read_55 ?_
        refine g_iload_n hC 2 dX1_read_58 rfl rfl ?_
        refine g_aload_n hC 1 dX1_read_59 rfl rfl ?_
        refine g_iload_n hC 2 dX1_read_60 rfl rfl ?_
        obtain ⟨z61, hz61, hf⟩ := gd_b hf
        refine g_callVi (wr := [oO aP 0 [.int xP_walkers, .int xP_light, .int xP_water, .int z47, .int xP_kinds]]) (wn := [oO aT 1 [.ref aB, .int xT_length], oI aB iB 32 xB, oO aP 0 [.int xP_walkers, .int xP_light, .int xP_water, .int z47, .int xP_kinds]]) hC [.int j2] (cX2_kind_m (kl X) (kD X) aT aB iB xT_length xB j2 z61 hz61) gX1_read_X2_kind rfl kyX2_kind rfl rfl rfl (q0 := 0) rfl [0, 1] [2] [0] [1, 2, 0] rfl rfl rfl rfl (by decide) rfl rfl rfl ⟨rfl, rfl⟩ ⟨Nat.le_of_ble_eq_true rfl, Nat.le_of_ble_eq_true rfl⟩ (Nat.le_of_ble_eq_true rfl) rfl dX1_read_61 ?_
        obtain ⟨z64, hz64, hf⟩ := gd_b hf
        refine g_callSi (wr := [oO aT 1 [.ref aB, .int xT_length], oI aB iB 32 xB, oO aP 0 [.int xP_walkers, .int xP_light, .int xP_water, .int z47, .int xP_kinds]]) (wn := [oO aT 1 [.ref aB, .int xT_length], oI aB iB 32 xB, oO aP 0 [.int xP_walkers, .int xP_light, .int xP_water, .int z47, .int xP_kinds]]) hC [.int xP_kinds, .int j2, .int z61] (cX0_with_m (kl X) (kD X) xP_kinds j2 z61 z64 hz64) gX1_read_X0_with rfl kyX0_with rfl [] [0, 1, 2] [] [0, 1, 2] rfl rfl rfl rfl (by decide) rfl rfl rfl ⟨rfl, rfl⟩ ⟨Nat.le_of_ble_eq_true rfl, Nat.le_of_ble_eq_true rfl⟩ (Nat.le_of_ble_eq_true rfl) rfl dX1_read_64 ?_
        refine g_put (C := RX1) (T := TX1) (N := 5) (ty := .int) (ws' := [oO aT 1 [.ref aB, .int xT_length], oI aB iB 32 xB, oO aP 0 [.int xP_walkers, .int xP_light, .int xP_water, .int z47, .int z64]]) hC tyX1_ok nmX1 hinX1 2 4 rfl rfl (by decide) (List.mem_of_getElem? (i := 5) rfl) rfl rfl rfl rfl (Nat.le_of_ble_eq_true rfl) dX1_read_67 rfl ?_
        refine g_iinc (v := (j2 + (1 : Int32))) (lv' := [(2, .int (j2 + (1 : Int32))), (0, .ref aP), (1, .ref aT)]) hC 2 dX1_read_70 rfl (ii _ ci_1) (by decide) rfl ?_
        refine g_goto (tgt := 28) hC dX1_read_73 (by decide) ?_
        refine g_lv (lv' := [(0, .ref aP), (1, .ref aT), (2, .int (j2 + (1 : Int32)))]) [1, 2, 0] rfl ?_
        exact hk28 (j2 + (1 : Int32)) xP_walkers xP_light xP_water z47 z64 hf
  unfold fX1_read at hf
  refine g_aload_n hC 0 dX1_read_0 rfl rfl ?_
  refine g_aload_n hC 1 dX1_read_1 rfl rfl ?_
  refine g_iconst (v := (1 : Int32)) hC dX1_read_2 ci_1 ?_
  obtain ⟨z3, hz3, hf⟩ := gd_b hf
  refine g_callVi (wr := [oO aP 0 [.int xP_walkers, .int xP_light, .int xP_water, .int xP_nerves, .int xP_kinds]]) (wn := [oO aT 1 [.ref aB, .int xT_length], oI aB iB 32 xB, oO aP 0 [.int xP_walkers, .int xP_light, .int xP_water, .int xP_nerves, .int xP_kinds]]) hC [.int (1 : Int32)] (cX2_figure_m (kl X) (kD X) aT aB iB xT_length xB (1 : Int32) z3 hz3) gX1_read_X2_figure rfl kyX2_figure rfl rfl rfl (q0 := 0) rfl [0, 1] [2] [0] [1, 2, 0] rfl rfl rfl rfl (by decide) rfl rfl rfl ⟨rfl, rfl⟩ ⟨Nat.le_of_ble_eq_true rfl, Nat.le_of_ble_eq_true rfl⟩ (Nat.le_of_ble_eq_true rfl) rfl dX1_read_3 ?_
  refine g_put (C := RX1) (T := TX1) (N := 5) (ty := .int) (ws' := [oO aT 1 [.ref aB, .int xT_length], oI aB iB 32 xB, oO aP 0 [.int xP_walkers, .int z3, .int xP_water, .int xP_nerves, .int xP_kinds]]) hC tyX1_ok nmX1 hinX1 2 1 rfl rfl (by decide) (List.mem_of_getElem? (i := 1) rfl) rfl rfl rfl rfl (Nat.le_of_ble_eq_true rfl) dX1_read_6 rfl ?_
  refine g_aload_n hC 0 dX1_read_9 rfl rfl ?_
  refine g_aload_n hC 1 dX1_read_10 rfl rfl ?_
  refine g_iconst (v := (2 : Int32)) hC dX1_read_11 ci_2 ?_
  obtain ⟨z12, hz12, hf⟩ := gd_b hf
  refine g_callVi (wr := [oO aP 0 [.int xP_walkers, .int z3, .int xP_water, .int xP_nerves, .int xP_kinds]]) (wn := [oO aT 1 [.ref aB, .int xT_length], oI aB iB 32 xB, oO aP 0 [.int xP_walkers, .int z3, .int xP_water, .int xP_nerves, .int xP_kinds]]) hC [.int (2 : Int32)] (cX2_figure_m (kl X) (kD X) aT aB iB xT_length xB (2 : Int32) z12 hz12) gX1_read_X2_figure rfl kyX2_figure rfl rfl rfl (q0 := 0) rfl [0, 1] [2] [0] [1, 2, 0] rfl rfl rfl rfl (by decide) rfl rfl rfl ⟨rfl, rfl⟩ ⟨Nat.le_of_ble_eq_true rfl, Nat.le_of_ble_eq_true rfl⟩ (Nat.le_of_ble_eq_true rfl) rfl dX1_read_12 ?_
  refine g_put (C := RX1) (T := TX1) (N := 5) (ty := .int) (ws' := [oO aT 1 [.ref aB, .int xT_length], oI aB iB 32 xB, oO aP 0 [.int xP_walkers, .int z3, .int z12, .int xP_nerves, .int xP_kinds]]) hC tyX1_ok nmX1 hinX1 2 2 rfl rfl (by decide) (List.mem_of_getElem? (i := 2) rfl) rfl rfl rfl rfl (Nat.le_of_ble_eq_true rfl) dX1_read_15 rfl ?_
  refine g_aload_n hC 0 dX1_read_18 rfl rfl ?_
  refine g_aload_n hC 1 dX1_read_19 rfl rfl ?_
  obtain ⟨z20, hz20, hf⟩ := gd_b hf
  refine g_callVi (wr := [oI aB iB 32 xB, oO aP 0 [.int xP_walkers, .int z3, .int z12, .int xP_nerves, .int xP_kinds]]) (wn := [oO aT 1 [.ref aB, .int xT_length], oI aB iB 32 xB, oO aP 0 [.int xP_walkers, .int z3, .int z12, .int xP_nerves, .int xP_kinds]]) hC [] (cX2_parts_m (kl X) (kD X) aT aB xT_length z20 hz20) gX1_read_X2_parts rfl kyX2_parts rfl rfl rfl (q0 := 0) rfl [0] [1, 2] [] [2, 0, 1] rfl rfl rfl rfl (by decide) rfl rfl rfl ⟨rfl, rfl⟩ ⟨Nat.le_of_ble_eq_true rfl, Nat.le_of_ble_eq_true rfl⟩ (Nat.le_of_ble_eq_true rfl) rfl dX1_read_20 ?_
  refine g_put (C := RX1) (T := TX1) (N := 5) (ty := .int) (ws' := [oO aT 1 [.ref aB, .int xT_length], oI aB iB 32 xB, oO aP 0 [.int z20, .int z3, .int z12, .int xP_nerves, .int xP_kinds]]) hC tyX1_ok nmX1 hinX1 2 0 rfl rfl (by decide) (List.mem_of_getElem? (i := 3) rfl) rfl rfl rfl rfl (Nat.le_of_ble_eq_true rfl) dX1_read_23 rfl ?_
  refine g_iconst (v := (0 : Int32)) hC dX1_read_26 ci_0 ?_
  refine g_istore_n (lv' := [(2, .int (0 : Int32)), (0, .ref aP), (1, .ref aT)]) hC dX1_read_27 rfl (by decide) rfl ?_
  refine g_lv (lv' := [(0, .ref aP), (1, .ref aT), (2, .int (0 : Int32))]) [1, 2, 0] rfl ?_
  exact t28  fu (0 : Int32) z20 z3 z12 xP_nerves xP_kinds hf
theorem kyX1_everybody : yX1_everybody.cls = RX1 ∧ yX1_everybody.cls ≠ "java/lang/invoke/MethodHandle" ∧ yX1_everybody.cls ≠ "java/lang/invoke/VarHandle" ∧ (parseMethodDescriptor yX1_everybody.desc).map (fun d => d.parameters.length) = some 0 := by decide +kernel
set_option maxHeartbeats 4000000 in
set_option maxRecDepth 100000 in
theorem cX1_everybody_m (l : Launch) (D : va_G) (aP : Nat) (xP_walkers : Int32) (xP_light : Int32) (xP_water : Int32) (xP_nerves : Int32) (xP_kinds : Int32)  (z : Int32) (hf : fX1_everybody xP_walkers = some z) : ∀ sz : Nat, Met l yX1_everybody wsX1_everybody ({ frames := 0, cells := 0, slots := 0, locals := 0 } : Room) (kPre D [] [oO aP 0 [.int xP_walkers, .int xP_light, .int xP_water, .int xP_nerves, .int xP_kinds]] sz [.ref aP]) (kQi D [] [oO aP 0 [.int xP_walkers, .int xP_light, .int xP_water, .int xP_nerves, .int xP_kinds]] sz [oO aP 0 [.int xP_walkers, .int xP_light, .int xP_water, .int xP_nerves, .int xP_kinds]] z) 0 0 (va_A [oO aP 0 [.int xP_walkers, .int xP_light, .int xP_water, .int xP_nerves, .int xP_kinds]] sz) := by
  refine kMet_i (own := RX1) z (fun u => u) (fun u => [oO aP 0 [.int xP_walkers, .int xP_light, .int xP_water, .int xP_nerves, .int xP_kinds]]) rfl (by decide) rfl ⟨rfl, rfl⟩ (Nat.le_of_ble_eq_true rfl) ?_
  intro X hXl hXD hC hQ
  subst hXl
  subst hXD
  change kG X 0 [(0, .ref aP)] [] [oO aP 0 [.int xP_walkers, .int xP_light, .int xP_water, .int xP_nerves, .int xP_kinds]]
  have hinX1 : ∀ w ∈ wsX10, w ∈ wsX1_everybody := fun _ h => List.mem_cons_of_mem _ (List.mem_append_right _ h)
  unfold fX1_everybody at hf
  refine g_iconst (v := (1 : Int32)) hC dX1_everybody_0 ci_1 ?_
  refine g_aload_n hC 0 dX1_everybody_1 rfl rfl ?_
  refine g_get (C := RX1) (T := TX1) (N := 5) (v := .int xP_walkers) hC hinX1 0 0 rfl rfl (by decide) (List.mem_of_getElem? (i := 1) rfl) rfl dX1_everybody_2 ?_
  refine g_ishl hC dX1_everybody_5 ?_
  refine g_iconst (v := (1 : Int32)) hC dX1_everybody_6 ci_1 ?_
  refine g_isub hC dX1_everybody_7 ?_
  exact hQ ((((1 : Int32) <<< (xP_walkers &&& 31)) - (1 : Int32))) _ _ (gd_s hf) dX1_everybody_8
theorem kyX1_walkers : yX1_walkers.cls = RX1 ∧ yX1_walkers.cls ≠ "java/lang/invoke/MethodHandle" ∧ yX1_walkers.cls ≠ "java/lang/invoke/VarHandle" ∧ (parseMethodDescriptor yX1_walkers.desc).map (fun d => d.parameters.length) = some 0 := by decide +kernel
set_option maxHeartbeats 4000000 in
set_option maxRecDepth 100000 in
theorem cX1_walkers_m (l : Launch) (D : va_G) (aP : Nat) (xP_walkers : Int32) (xP_light : Int32) (xP_water : Int32) (xP_nerves : Int32) (xP_kinds : Int32)  (z : Int32) (hf : fX1_walkers xP_walkers = some z) : ∀ sz : Nat, Met l yX1_walkers wsX1_walkers ({ frames := 0, cells := 0, slots := 0, locals := 0 } : Room) (kPre D [] [oO aP 0 [.int xP_walkers, .int xP_light, .int xP_water, .int xP_nerves, .int xP_kinds]] sz [.ref aP]) (kQi D [] [oO aP 0 [.int xP_walkers, .int xP_light, .int xP_water, .int xP_nerves, .int xP_kinds]] sz [oO aP 0 [.int xP_walkers, .int xP_light, .int xP_water, .int xP_nerves, .int xP_kinds]] z) 0 0 (va_A [oO aP 0 [.int xP_walkers, .int xP_light, .int xP_water, .int xP_nerves, .int xP_kinds]] sz) := by
  refine kMet_i (own := RX1) z (fun u => u) (fun u => [oO aP 0 [.int xP_walkers, .int xP_light, .int xP_water, .int xP_nerves, .int xP_kinds]]) rfl (by decide) rfl ⟨rfl, rfl⟩ (Nat.le_of_ble_eq_true rfl) ?_
  intro X hXl hXD hC hQ
  subst hXl
  subst hXD
  change kG X 0 [(0, .ref aP)] [] [oO aP 0 [.int xP_walkers, .int xP_light, .int xP_water, .int xP_nerves, .int xP_kinds]]
  have hinX1 : ∀ w ∈ wsX10, w ∈ wsX1_walkers := fun _ h => List.mem_cons_of_mem _ (List.mem_append_right _ h)
  unfold fX1_walkers at hf
  refine g_aload_n hC 0 dX1_walkers_0 rfl rfl ?_
  refine g_get (C := RX1) (T := TX1) (N := 5) (v := .int xP_walkers) hC hinX1 0 0 rfl rfl (by decide) (List.mem_of_getElem? (i := 1) rfl) rfl dX1_walkers_1 ?_
  exact hQ (xP_walkers) _ _ (gd_s hf) dX1_walkers_4
theorem kyX1_light : yX1_light.cls = RX1 ∧ yX1_light.cls ≠ "java/lang/invoke/MethodHandle" ∧ yX1_light.cls ≠ "java/lang/invoke/VarHandle" ∧ (parseMethodDescriptor yX1_light.desc).map (fun d => d.parameters.length) = some 0 := by decide +kernel
set_option maxHeartbeats 4000000 in
set_option maxRecDepth 100000 in
theorem cX1_light_m (l : Launch) (D : va_G) (aP : Nat) (xP_walkers : Int32) (xP_light : Int32) (xP_water : Int32) (xP_nerves : Int32) (xP_kinds : Int32)  (z : Int32) (hf : fX1_light xP_light = some z) : ∀ sz : Nat, Met l yX1_light wsX1_light ({ frames := 0, cells := 0, slots := 0, locals := 0 } : Room) (kPre D [] [oO aP 0 [.int xP_walkers, .int xP_light, .int xP_water, .int xP_nerves, .int xP_kinds]] sz [.ref aP]) (kQi D [] [oO aP 0 [.int xP_walkers, .int xP_light, .int xP_water, .int xP_nerves, .int xP_kinds]] sz [oO aP 0 [.int xP_walkers, .int xP_light, .int xP_water, .int xP_nerves, .int xP_kinds]] z) 0 0 (va_A [oO aP 0 [.int xP_walkers, .int xP_light, .int xP_water, .int xP_nerves, .int xP_kinds]] sz) := by
  refine kMet_i (own := RX1) z (fun u => u) (fun u => [oO aP 0 [.int xP_walkers, .int xP_light, .int xP_water, .int xP_nerves, .int xP_kinds]]) rfl (by decide) rfl ⟨rfl, rfl⟩ (Nat.le_of_ble_eq_true rfl) ?_
  intro X hXl hXD hC hQ
  subst hXl
  subst hXD
  change kG X 0 [(0, .ref aP)] [] [oO aP 0 [.int xP_walkers, .int xP_light, .int xP_water, .int xP_nerves, .int xP_kinds]]
  have hinX1 : ∀ w ∈ wsX10, w ∈ wsX1_light := fun _ h => List.mem_cons_of_mem _ (List.mem_append_right _ h)
  unfold fX1_light at hf
  refine g_aload_n hC 0 dX1_light_0 rfl rfl ?_
  refine g_get (C := RX1) (T := TX1) (N := 5) (v := .int xP_light) hC hinX1 0 1 rfl rfl (by decide) (List.mem_of_getElem? (i := 1) rfl) rfl dX1_light_1 ?_
  exact hQ (xP_light) _ _ (gd_s hf) dX1_light_4
theorem kyX1_water : yX1_water.cls = RX1 ∧ yX1_water.cls ≠ "java/lang/invoke/MethodHandle" ∧ yX1_water.cls ≠ "java/lang/invoke/VarHandle" ∧ (parseMethodDescriptor yX1_water.desc).map (fun d => d.parameters.length) = some 0 := by decide +kernel
set_option maxHeartbeats 4000000 in
set_option maxRecDepth 100000 in
theorem cX1_water_m (l : Launch) (D : va_G) (aP : Nat) (xP_walkers : Int32) (xP_light : Int32) (xP_water : Int32) (xP_nerves : Int32) (xP_kinds : Int32)  (z : Int32) (hf : fX1_water xP_water = some z) : ∀ sz : Nat, Met l yX1_water wsX1_water ({ frames := 0, cells := 0, slots := 0, locals := 0 } : Room) (kPre D [] [oO aP 0 [.int xP_walkers, .int xP_light, .int xP_water, .int xP_nerves, .int xP_kinds]] sz [.ref aP]) (kQi D [] [oO aP 0 [.int xP_walkers, .int xP_light, .int xP_water, .int xP_nerves, .int xP_kinds]] sz [oO aP 0 [.int xP_walkers, .int xP_light, .int xP_water, .int xP_nerves, .int xP_kinds]] z) 0 0 (va_A [oO aP 0 [.int xP_walkers, .int xP_light, .int xP_water, .int xP_nerves, .int xP_kinds]] sz) := by
  refine kMet_i (own := RX1) z (fun u => u) (fun u => [oO aP 0 [.int xP_walkers, .int xP_light, .int xP_water, .int xP_nerves, .int xP_kinds]]) rfl (by decide) rfl ⟨rfl, rfl⟩ (Nat.le_of_ble_eq_true rfl) ?_
  intro X hXl hXD hC hQ
  subst hXl
  subst hXD
  change kG X 0 [(0, .ref aP)] [] [oO aP 0 [.int xP_walkers, .int xP_light, .int xP_water, .int xP_nerves, .int xP_kinds]]
  have hinX1 : ∀ w ∈ wsX10, w ∈ wsX1_water := fun _ h => List.mem_cons_of_mem _ (List.mem_append_right _ h)
  unfold fX1_water at hf
  refine g_aload_n hC 0 dX1_water_0 rfl rfl ?_
  refine g_get (C := RX1) (T := TX1) (N := 5) (v := .int xP_water) hC hinX1 0 2 rfl rfl (by decide) (List.mem_of_getElem? (i := 1) rfl) rfl dX1_water_1 ?_
  exact hQ (xP_water) _ _ (gd_s hf) dX1_water_4
theorem kyX1_has : yX1_has.cls = RX1 ∧ yX1_has.cls ≠ "java/lang/invoke/MethodHandle" ∧ yX1_has.cls ≠ "java/lang/invoke/VarHandle" ∧ (parseMethodDescriptor yX1_has.desc).map (fun d => d.parameters.length) = some 1 := by decide +kernel
set_option maxHeartbeats 4000000 in
set_option maxRecDepth 100000 in
theorem cX1_has_m (l : Launch) (D : va_G) (aP : Nat) (xP_walkers : Int32) (xP_light : Int32) (xP_water : Int32) (xP_nerves : Int32) (xP_kinds : Int32) (j1 : Int32) (z : Int32) (hf : fX1_has j1 xP_walkers = some z) : ∀ sz : Nat, Met l yX1_has wsX1_has ({ frames := 1, cells := 0, slots := 0, locals := 22 } : Room) (kPre D [] [oO aP 0 [.int xP_walkers, .int xP_light, .int xP_water, .int xP_nerves, .int xP_kinds]] sz [.ref aP, .int j1]) (kQi D [] [oO aP 0 [.int xP_walkers, .int xP_light, .int xP_water, .int xP_nerves, .int xP_kinds]] sz [oO aP 0 [.int xP_walkers, .int xP_light, .int xP_water, .int xP_nerves, .int xP_kinds]] z) 0 0 (va_A [oO aP 0 [.int xP_walkers, .int xP_light, .int xP_water, .int xP_nerves, .int xP_kinds]] sz) := by
  refine kMet_z (own := RX1) z (fun u => u) (fun u => [oO aP 0 [.int xP_walkers, .int xP_light, .int xP_water, .int xP_nerves, .int xP_kinds]]) rfl (by decide) rfl ⟨rfl, rfl⟩ (Nat.le_of_ble_eq_true rfl) ?_
  intro X hXl hXD hC hQ
  subst hXl
  subst hXD
  change kG X 0 [(0, .ref aP), (1, .int j1)] [] [oO aP 0 [.int xP_walkers, .int xP_light, .int xP_water, .int xP_nerves, .int xP_kinds]]
  have hinX1 : ∀ w ∈ wsX10, w ∈ wsX1_has := fun _ h => List.mem_cons_of_mem _ (List.mem_append_right _ h)
  unfold fX1_has at hf
  refine g_iload_n hC 1 dX1_has_0 rfl rfl ?_
  refine g_iconst (v := (0 : Int32)) hC dX1_has_1 ci_0 ?_
  refine g_aload_n hC 0 dX1_has_2 rfl rfl ?_
  refine g_get (C := RX1) (T := TX1) (N := 5) (v := .int xP_walkers) hC hinX1 0 0 rfl rfl (by decide) (List.mem_of_getElem? (i := 1) rfl) rfl dX1_has_3 ?_
  refine g_iconst (v := (1 : Int32)) hC dX1_has_6 ci_1 ?_
  refine g_isub hC dX1_has_7 ?_
  obtain ⟨z8, hz8, hf⟩ := gd_b hf
  refine g_callNi (wr := [oO aP 0 [.int xP_walkers, .int xP_light, .int xP_water, .int xP_nerves, .int xP_kinds]]) (wn := [oO aP 0 [.int xP_walkers, .int xP_light, .int xP_water, .int xP_nerves, .int xP_kinds]]) hC [.int j1, .int (0 : Int32), .int (xP_walkers - (1 : Int32))] (cX4_within_m (kl X) (kD X) j1 (0 : Int32) (xP_walkers - (1 : Int32)) z8 hz8) gX1_has_X4_within_n47 rfl kyX4_within rfl hC.2.2.2.2.2.2.1.2.1 (List.mem_of_getElem? (i := 3) rfl) (List.mem_of_getElem? (i := 2) rfl) [] [0] [] [0] rfl rfl rfl rfl (by decide) rfl rfl rfl ⟨rfl, rfl⟩ ⟨Nat.le_of_ble_eq_true rfl, Nat.le_of_ble_eq_true rfl⟩ (Nat.le_of_ble_eq_true rfl) rfl dX1_has_8 ?_
  obtain ⟨hg, hf⟩ := gd_gz hf
  exact hQ (z8) _ _ (gd_s hf) (nz_of hg) dX1_has_11
theorem kyX1_nerve : yX1_nerve.cls = RX1 ∧ yX1_nerve.cls ≠ "java/lang/invoke/MethodHandle" ∧ yX1_nerve.cls ≠ "java/lang/invoke/VarHandle" ∧ (parseMethodDescriptor yX1_nerve.desc).map (fun d => d.parameters.length) = some 1 := by decide +kernel
set_option maxHeartbeats 4000000 in
set_option maxRecDepth 100000 in
theorem cX1_nerve_m (l : Launch) (D : va_G) (aP : Nat) (xP_walkers : Int32) (xP_light : Int32) (xP_water : Int32) (xP_nerves : Int32) (xP_kinds : Int32) (j1 : Int32) (z : Int32) (hf : fX1_nerve j1 xP_nerves = some z) : ∀ sz : Nat, Met l yX1_nerve wsX1_nerve ({ frames := 1, cells := 0, slots := 0, locals := 21 } : Room) (kPre D [] [oO aP 0 [.int xP_walkers, .int xP_light, .int xP_water, .int xP_nerves, .int xP_kinds]] sz [.ref aP, .int j1]) (kQi D [] [oO aP 0 [.int xP_walkers, .int xP_light, .int xP_water, .int xP_nerves, .int xP_kinds]] sz [oO aP 0 [.int xP_walkers, .int xP_light, .int xP_water, .int xP_nerves, .int xP_kinds]] z) 0 0 (va_A [oO aP 0 [.int xP_walkers, .int xP_light, .int xP_water, .int xP_nerves, .int xP_kinds]] sz) := by
  refine kMet_i (own := RX1) z (fun u => u) (fun u => [oO aP 0 [.int xP_walkers, .int xP_light, .int xP_water, .int xP_nerves, .int xP_kinds]]) rfl (by decide) rfl ⟨rfl, rfl⟩ (Nat.le_of_ble_eq_true rfl) ?_
  intro X hXl hXD hC hQ
  subst hXl
  subst hXD
  change kG X 0 [(0, .ref aP), (1, .int j1)] [] [oO aP 0 [.int xP_walkers, .int xP_light, .int xP_water, .int xP_nerves, .int xP_kinds]]
  have hinX1 : ∀ w ∈ wsX10, w ∈ wsX1_nerve := fun _ h => List.mem_cons_of_mem _ (List.mem_append_right _ h)
  unfold fX1_nerve at hf
  refine g_aload_n hC 0 dX1_nerve_0 rfl rfl ?_
  refine g_get (C := RX1) (T := TX1) (N := 5) (v := .int xP_nerves) hC hinX1 0 3 rfl rfl (by decide) (List.mem_of_getElem? (i := 1) rfl) rfl dX1_nerve_1 ?_
  refine g_iload_n hC 1 dX1_nerve_4 rfl rfl ?_
  obtain ⟨z5, hz5, hf⟩ := gd_b hf
  refine g_callSi (wr := [oO aP 0 [.int xP_walkers, .int xP_light, .int xP_water, .int xP_nerves, .int xP_kinds]]) (wn := [oO aP 0 [.int xP_walkers, .int xP_light, .int xP_water, .int xP_nerves, .int xP_kinds]]) hC [.int xP_nerves, .int j1] (cX0_at_m (kl X) (kD X) xP_nerves j1 z5 hz5) gX1_nerve_X0_at rfl kyX0_at rfl [] [0] [] [0] rfl rfl rfl rfl (by decide) rfl rfl rfl ⟨rfl, rfl⟩ ⟨Nat.le_of_ble_eq_true rfl, Nat.le_of_ble_eq_true rfl⟩ (Nat.le_of_ble_eq_true rfl) rfl dX1_nerve_5 ?_
  exact hQ (z5) _ _ (gd_s hf) dX1_nerve_8
theorem kyX1_kind : yX1_kind.cls = RX1 ∧ yX1_kind.cls ≠ "java/lang/invoke/MethodHandle" ∧ yX1_kind.cls ≠ "java/lang/invoke/VarHandle" ∧ (parseMethodDescriptor yX1_kind.desc).map (fun d => d.parameters.length) = some 1 := by decide +kernel
set_option maxHeartbeats 4000000 in
set_option maxRecDepth 100000 in
theorem cX1_kind_m (l : Launch) (D : va_G) (aP : Nat) (xP_walkers : Int32) (xP_light : Int32) (xP_water : Int32) (xP_nerves : Int32) (xP_kinds : Int32) (j1 : Int32) (z : Int32) (hf : fX1_kind j1 xP_kinds = some z) : ∀ sz : Nat, Met l yX1_kind wsX1_kind ({ frames := 1, cells := 0, slots := 0, locals := 21 } : Room) (kPre D [] [oO aP 0 [.int xP_walkers, .int xP_light, .int xP_water, .int xP_nerves, .int xP_kinds]] sz [.ref aP, .int j1]) (kQi D [] [oO aP 0 [.int xP_walkers, .int xP_light, .int xP_water, .int xP_nerves, .int xP_kinds]] sz [oO aP 0 [.int xP_walkers, .int xP_light, .int xP_water, .int xP_nerves, .int xP_kinds]] z) 0 0 (va_A [oO aP 0 [.int xP_walkers, .int xP_light, .int xP_water, .int xP_nerves, .int xP_kinds]] sz) := by
  refine kMet_i (own := RX1) z (fun u => u) (fun u => [oO aP 0 [.int xP_walkers, .int xP_light, .int xP_water, .int xP_nerves, .int xP_kinds]]) rfl (by decide) rfl ⟨rfl, rfl⟩ (Nat.le_of_ble_eq_true rfl) ?_
  intro X hXl hXD hC hQ
  subst hXl
  subst hXD
  change kG X 0 [(0, .ref aP), (1, .int j1)] [] [oO aP 0 [.int xP_walkers, .int xP_light, .int xP_water, .int xP_nerves, .int xP_kinds]]
  have hinX1 : ∀ w ∈ wsX10, w ∈ wsX1_kind := fun _ h => List.mem_cons_of_mem _ (List.mem_append_right _ h)
  unfold fX1_kind at hf
  refine g_aload_n hC 0 dX1_kind_0 rfl rfl ?_
  refine g_get (C := RX1) (T := TX1) (N := 5) (v := .int xP_kinds) hC hinX1 0 4 rfl rfl (by decide) (List.mem_of_getElem? (i := 1) rfl) rfl dX1_kind_1 ?_
  refine g_iload_n hC 1 dX1_kind_4 rfl rfl ?_
  obtain ⟨z5, hz5, hf⟩ := gd_b hf
  refine g_callSi (wr := [oO aP 0 [.int xP_walkers, .int xP_light, .int xP_water, .int xP_nerves, .int xP_kinds]]) (wn := [oO aP 0 [.int xP_walkers, .int xP_light, .int xP_water, .int xP_nerves, .int xP_kinds]]) hC [.int xP_kinds, .int j1] (cX0_at_m (kl X) (kD X) xP_kinds j1 z5 hz5) gX1_kind_X0_at rfl kyX0_at rfl [] [0] [] [0] rfl rfl rfl rfl (by decide) rfl rfl rfl ⟨rfl, rfl⟩ ⟨Nat.le_of_ble_eq_true rfl, Nat.le_of_ble_eq_true rfl⟩ (Nat.le_of_ble_eq_true rfl) rfl dX1_kind_5 ?_
  exact hQ (z5) _ _ (gd_s hf) dX1_kind_8
