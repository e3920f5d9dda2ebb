theorem kyJ6_bitCount_0f7a4 : yJ6_bitCount_0f7a4.cls ≠ "java/lang/invoke/MethodHandle" ∧ yJ6_bitCount_0f7a4.cls ≠ "java/lang/invoke/VarHandle" ∧ (parseMethodDescriptor yJ6_bitCount_0f7a4.desc).map (fun d => d.parameters.length) = some 1 := by decide +kernel
set_option maxHeartbeats 4000000 in
set_option maxRecDepth 100000 in
theorem cJ6_bitCount_0f7a4_m (l : Launch) (D : va_G)  (j0 : Int32) (z : Int32) (hf : fJ6_bitCount_0f7a4 j0 = some z) : ∀ sz : Nat, Met l yJ6_bitCount_0f7a4 wsJ6_bitCount_0f7a4 ({ frames := 0, cells := 0, slots := 0, locals := 0 } : Room) (kPre D [] [] sz [.int j0]) (kQi D [] [] sz [] z) 0 0 (va_A [] sz) := by
  refine kMet_i (own := RJ6) z (fun u => u) (fun u => []) rfl (by decide) rfl ⟨rfl, rfl⟩ (Nat.le_of_ble_eq_true rfl) ?_
  intro X hXl hXD hC hQ
  subst hXl
  subst hXD
  change kG X 0 [(0, .int j0)] [] []
  have t48 : ∀  (j0 : Int32), fJ6_bitCount_0f7a4_b48  j0 = some z → kG X 48 [(0, .int j0)] [] [] := by
    intro j0 hf
    unfold fJ6_bitCount_0f7a4_b48 at hf
    refine g_iload_n hC 0 dJ6_bitCount_0f7a4_48 rfl rfl ?_
    refine g_bipush (v := (63 : Int32)) hC dJ6_bitCount_0f7a4_49 cb_63 ?_
    refine g_iand hC dJ6_bitCount_0f7a4_51 ?_
    exact hQ ((j0 &&& (63 : Int32))) _ _ (gd_s hf) dJ6_bitCount_0f7a4_52
  have t41 : ∀  (j0 : Int32), fJ6_bitCount_0f7a4_b41  j0 = some z → kG X 41 [(0, .int j0)] [] [] := by
    intro j0 hf
    unfold fJ6_bitCount_0f7a4_b41 at hf
    refine g_iload_n hC 0 dJ6_bitCount_0f7a4_41 rfl rfl ?_
    refine g_iload_n hC 0 dJ6_bitCount_0f7a4_42 rfl rfl ?_
    refine g_bipush (v := (16 : Int32)) hC dJ6_bitCount_0f7a4_43 cb_16 ?_
    refine g_iushr hC dJ6_bitCount_0f7a4_45 ?_
    refine g_iadd hC dJ6_bitCount_0f7a4_46 ?_
    refine g_istore_n (lv' := [(0, .int (j0 + ((j0.toUInt32 >>> ((16 : Int32).toUInt32 &&& Int32.toUInt32 31)).toInt32)))]) hC dJ6_bitCount_0f7a4_47 rfl (by decide) rfl ?_
    exact t48  (j0 + ((j0.toUInt32 >>> ((16 : Int32).toUInt32 &&& Int32.toUInt32 31)).toInt32)) hf
  have t34 : ∀  (j0 : Int32), fJ6_bitCount_0f7a4_b34  j0 = some z → kG X 34 [(0, .int j0)] [] [] := by
    intro j0 hf
    unfold fJ6_bitCount_0f7a4_b34 at hf
    refine g_iload_n hC 0 dJ6_bitCount_0f7a4_34 rfl rfl ?_
    refine g_iload_n hC 0 dJ6_bitCount_0f7a4_35 rfl rfl ?_
    refine g_bipush (v := (8 : Int32)) hC dJ6_bitCount_0f7a4_36 cb_8 ?_
    refine g_iushr hC dJ6_bitCount_0f7a4_38 ?_
    refine g_iadd hC dJ6_bitCount_0f7a4_39 ?_
    refine g_istore_n (lv' := [(0, .int (j0 + ((j0.toUInt32 >>> ((8 : Int32).toUInt32 &&& Int32.toUInt32 31)).toInt32)))]) hC dJ6_bitCount_0f7a4_40 rfl (by decide) rfl ?_
    exact t41  (j0 + ((j0.toUInt32 >>> ((8 : Int32).toUInt32 &&& Int32.toUInt32 31)).toInt32)) hf
  have t24 : ∀  (j0 : Int32), fJ6_bitCount_0f7a4_b24  j0 = some z → kG X 24 [(0, .int j0)] [] [] := by
    intro j0 hf
    unfold fJ6_bitCount_0f7a4_b24 at hf
    refine g_iload_n hC 0 dJ6_bitCount_0f7a4_24 rfl rfl ?_
    refine g_iload_n hC 0 dJ6_bitCount_0f7a4_25 rfl rfl ?_
    refine g_iconst (v := (4 : Int32)) hC dJ6_bitCount_0f7a4_26 ci_4 ?_
    refine g_iushr hC dJ6_bitCount_0f7a4_27 ?_
    refine g_iadd hC dJ6_bitCount_0f7a4_28 ?_
    refine g_ldcw (v := (252645135 : Int32)) hC dJ6_bitCount_0f7a4_29 (List.mem_of_getElem? (i := 3) rfl) ?_
    refine g_iand hC dJ6_bitCount_0f7a4_32 ?_
    refine g_istore_n (lv' := [(0, .int ((j0 + ((j0.toUInt32 >>> ((4 : Int32).toUInt32 &&& Int32.toUInt32 31)).toInt32)) &&& (252645135 : Int32)))]) hC dJ6_bitCount_0f7a4_33 rfl (by decide) rfl ?_
    exact t34  ((j0 + ((j0.toUInt32 >>> ((4 : Int32).toUInt32 &&& Int32.toUInt32 31)).toInt32)) &&& (252645135 : Int32)) hf
  have t10 : ∀  (j0 : Int32), fJ6_bitCount_0f7a4_b10  j0 = some z → kG X 10 [(0, .int j0)] [] [] := by
    intro j0 hf
    unfold fJ6_bitCount_0f7a4_b10 at hf
    refine g_iload_n hC 0 dJ6_bitCount_0f7a4_10 rfl rfl ?_
    refine g_ldcw (v := (858993459 : Int32)) hC dJ6_bitCount_0f7a4_11 (List.mem_of_getElem? (i := 2) rfl) ?_
    refine g_iand hC dJ6_bitCount_0f7a4_14 ?_
    refine g_iload_n hC 0 dJ6_bitCount_0f7a4_15 rfl rfl ?_
    refine g_iconst (v := (2 : Int32)) hC dJ6_bitCount_0f7a4_16 ci_2 ?_
    refine g_iushr hC dJ6_bitCount_0f7a4_17 ?_
    refine g_ldcw (v := (858993459 : Int32)) hC dJ6_bitCount_0f7a4_18 (List.mem_of_getElem? (i := 2) rfl) ?_
    refine g_iand hC dJ6_bitCount_0f7a4_21 ?_
    refine g_iadd hC dJ6_bitCount_0f7a4_22 ?_
    refine g_istore_n (lv' := [(0, .int ((j0 &&& (858993459 : Int32)) + (((j0.toUInt32 >>> ((2 : Int32).toUInt32 &&& Int32.toUInt32 31)).toInt32) &&& (858993459 : Int32))))]) hC dJ6_bitCount_0f7a4_23 rfl (by decide) rfl ?_
    exact t24  ((j0 &&& (858993459 : Int32)) + (((j0.toUInt32 >>> ((2 : Int32).toUInt32 &&& Int32.toUInt32 31)).toInt32) &&& (858993459 : Int32))) hf
  unfold fJ6_bitCount_0f7a4 at hf
  refine g_iload_n hC 0 dJ6_bitCount_0f7a4_0 rfl rfl ?_
  refine g_iload_n hC 0 dJ6_bitCount_0f7a4_1 rfl rfl ?_
  refine g_iconst (v := (1 : Int32)) hC dJ6_bitCount_0f7a4_2 ci_1 ?_
  refine g_iushr hC dJ6_bitCount_0f7a4_3 ?_
  refine g_ldcw (v := (1431655765 : Int32)) hC dJ6_bitCount_0f7a4_4 (List.mem_of_getElem? (i := 1) rfl) ?_
  refine g_iand hC dJ6_bitCount_0f7a4_7 ?_
  refine g_isub hC dJ6_bitCount_0f7a4_8 ?_
  refine g_istore_n (lv' := [(0, .int (j0 - (((j0.toUInt32 >>> ((1 : Int32).toUInt32 &&& Int32.toUInt32 31)).toInt32) &&& (1431655765 : Int32))))]) hC dJ6_bitCount_0f7a4_9 rfl (by decide) rfl ?_
  exact t10  (j0 - (((j0.toUInt32 >>> ((1 : Int32).toUInt32 &&& Int32.toUInt32 31)).toInt32) &&& (1431655765 : Int32))) hf
theorem kyX0_with : yX0_with.cls ≠ "java/lang/invoke/MethodHandle" ∧ yX0_with.cls ≠ "java/lang/invoke/VarHandle" ∧ (parseMethodDescriptor yX0_with.desc).map (fun d => d.parameters.length) = some 3 := by decide +kernel
set_option maxHeartbeats 4000000 in
set_option maxRecDepth 100000 in
theorem cX0_with_m (l : Launch) (D : va_G)  (j0 : Int32) (j1 : Int32) (j2 : Int32) (z : Int32) (hf : fX0_with j0 j1 j2 = some z) : ∀ sz : Nat, Met l yX0_with wsX0_with ({ frames := 0, cells := 0, slots := 0, locals := 0 } : Room) (kPre D [] [] sz [.int j0, .int j1, .int j2]) (kQi D [] [] sz [] z) 0 0 (va_A [] sz) := by
  refine kMet_i (own := RX0) z (fun u => u) (fun u => []) rfl (by decide) rfl ⟨rfl, rfl⟩ (Nat.le_of_ble_eq_true rfl) ?_
  intro X hXl hXD hC hQ
  subst hXl
  subst hXD
  change kG X 0 [(0, .int j0), (1, .int j1), (2, .int j2)] [] []
  unfold fX0_with at hf
  refine g_iload_n hC 0 dX0_with_0 rfl rfl ?_
  refine g_bipush (v := (15 : Int32)) hC dX0_with_1 cb_15 ?_
  refine g_iconst (v := (4 : Int32)) hC dX0_with_3 ci_4 ?_
  refine g_iload_n hC 1 dX0_with_4 rfl rfl ?_
  refine g_imul hC dX0_with_5 ?_
  refine g_ishl hC dX0_with_6 ?_
  refine g_iconst (v := (-1 : Int32)) hC dX0_with_7 ci_m1 ?_
  refine g_ixor hC dX0_with_8 ?_
  refine g_iand hC dX0_with_9 ?_
  refine g_iload_n hC 2 dX0_with_10 rfl rfl ?_
  refine g_iconst (v := (4 : Int32)) hC dX0_with_11 ci_4 ?_
  refine g_iload_n hC 1 dX0_with_12 rfl rfl ?_
  refine g_imul hC dX0_with_13 ?_
  refine g_ishl hC dX0_with_14 ?_
  refine g_ior hC dX0_with_15 ?_
  exact hQ (((j0 &&& (((15 : Int32) <<< (((4 : Int32) * j1) &&& 31)) ^^^ (-1 : Int32))) ||| (j2 <<< (((4 : Int32) * j1) &&& 31)))) _ _ (gd_s hf) dX0_with_16
theorem kyX0_ascending : yX0_ascending.cls ≠ "java/lang/invoke/MethodHandle" ∧ yX0_ascending.cls ≠ "java/lang/invoke/VarHandle" ∧ (parseMethodDescriptor yX0_ascending.desc).map (fun d => d.parameters.length) = some 1 := by decide +kernel
set_option maxHeartbeats 4000000 in
set_option maxRecDepth 100000 in
theorem cX0_ascending_m (l : Launch) (D : va_G)  (j0 : Int32) (z : Int32) (hf : fX0_ascending j0 = some z) : ∀ sz : Nat, Met l yX0_ascending wsX0_ascending ({ frames := 1, cells := 0, slots := 0, locals := 22 } : Room) (kPre D [] [] sz [.int j0]) (kQi D [] [] sz [] z) 0 0 (va_A [] sz) := by
  refine kMet_i (own := RX0) z (fun u => u) (fun u => []) rfl (by decide) rfl ⟨rfl, rfl⟩ (Nat.le_of_ble_eq_true rfl) ?_
  intro X hXl hXD hC hQ
  subst hXl
  subst hXD
  change kG X 0 [(0, .int j0)] [] []
  have t32 : ∀ (k6 : Int32 → Int32 → Int32 → Int32 → Option (Int32)) (hk6 : ∀ (j0 : Int32) (j1 : Int32) (j2 : Int32) (j3 : Int32), k6 j0 j1 j2 j3 = some z → kG X 6 [(0, .int j0), (1, .int j1), (2, .int j2), (3, .int j3)] [] []) (j0 : Int32) (j1 : Int32) (j2 : Int32) (j3 : Int32), fX0_ascending_b32 k6 j0 j1 j2 j3 = some z → kG X 32 [(0, .int j0), (1, .int j1), (2, .int j2), (3, .int j3)] [] [] := by
    intro k6 hk6 j0 j1 j2 j3 hf
    unfold fX0_ascending_b32 at hf
    refine g_iinc (v := (j3 + (1 : Int32))) (lv' := [(3, .int (j3 + (1 : Int32))), (0, .int j0), (1, .int j1), (2, .int j2)]) hC 3 dX0_ascending_32 rfl (ii _ ci_1) (by decide) rfl ?_
    refine g_goto (tgt := 6) hC dX0_ascending_35 (by decide) ?_
    refine g_lv (lv' := [(0, .int j0), (1, .int j1), (2, .int j2), (3, .int (j3 + (1 : Int32)))]) [1, 2, 3, 0] rfl ?_
    exact hk6 j0 j1 j2 (j3 + (1 : Int32)) hf
  have t6 : ∀  (n : Nat) (j0 : Int32) (j1 : Int32) (j2 : Int32) (j3 : Int32), lp (fun _ _ _ _ => none) (fX0_ascending_b6_S ) n j0 j1 j2 j3 = some z → kG X 6 [(0, .int j0), (1, .int j1), (2, .int j2), (3, .int j3)] [] [] := by
    intro  n
    induction n with
    | zero => intro j0 j1 j2 j3 hf; cases hf
    | succ n hk6 =>
      intro j0 j1 j2 j3 hf
      rw [lp_s] at hf
      revert hf hk6
      generalize lp (fun _ _ _ _ => none) (fX0_ascending_b6_S ) n = k6
      intro hk6 hf
      unfold fX0_ascending_b6_S at hf
      refine g_iload_n hC 3 dX0_ascending_6 rfl rfl ?_
      refine g_iconst (v := (5 : Int32)) hC dX0_ascending_7 ci_5 ?_
      refine g_icmp_ge (tgt := 38) hC dX0_ascending_8 (by decide) (fun hc => ?_) (fun hc => ?_)
      · replace hf := gd_t hc hf
        refine g_iload_n hC 1 dX0_ascending_38 rfl rfl ?_
        exact hQ (j1) _ _ (gd_s hf) dX0_ascending_39
      · replace hf := gd_f hc hf
        refine g_iload_n hC 0 dX0_ascending_11 rfl rfl ?_
        refine g_iload_n hC 3 dX0_ascending_12 rfl rfl ?_
        refine g_ishr hC dX0_ascending_13 ?_
        refine g_iconst (v := (1 : Int32)) hC dX0_ascending_14 ci_1 ?_
        refine g_iand hC dX0_ascending_15 ?_
        refine g_iconst (v := (1 : Int32)) hC dX0_ascending_16 ci_1 ?_
        refine g_icmp_ne (tgt := 32) hC dX0_ascending_17 (by decide) (fun hc => ?_) (fun hc => ?_)
        · replace hf := gd_f hc hf
          exact t32 k6 hk6 j0 j1 j2 j3 hf
        · replace hf := gd_t hc hf
          refine g_iload_n hC 1 dX0_ascending_20 rfl rfl ?_
          refine g_iload_n hC 2 dX0_ascending_21 rfl rfl ?_
          refine g_iload_n hC 3 dX0_ascending_22 rfl rfl ?_
          refine g_iconst (v := (1 : Int32)) hC dX0_ascending_23 ci_1 ?_
          refine g_iadd hC dX0_ascending_24 ?_
          obtain ⟨z25, hz25, hf⟩ := gd_b hf
          refine g_callSi (wr := []) (wn := []) hC [.int j1, .int j2, .int (j3 + (1 : Int32))] (cX0_with_m (kl X) (kD X) j1 j2 (j3 + (1 : Int32)) z25 hz25) gX0_ascending_X0_with rfl kyX0_with rfl [] [] [] [] rfl rfl rfl rfl (by decide) rfl rfl rfl ⟨rfl, rfl⟩ ⟨Nat.le_of_ble_eq_true rfl, Nat.le_of_ble_eq_true rfl⟩ (Nat.le_of_ble_eq_true rfl) rfl dX0_ascending_25 ?_
          refine g_istore_n (lv' := [(1, .int z25), (0, .int j0), (2, .int j2), (3, .int j3)]) hC dX0_ascending_28 rfl (by decide) rfl ?_
          refine g_iinc (v := (j2 + (1 : Int32))) (lv' := [(2, .int (j2 + (1 : Int32))), (1, .int z25), (0, .int j0), (3, .int j3)]) hC 2 dX0_ascending_29 rfl (ii _ ci_1) (by decide) rfl ?_
          refine g_lv (lv' := [(0, .int j0), (1, .int z25), (2, .int (j2 + (1 : Int32))), (3, .int j3)]) [2, 1, 0, 3] rfl ?_
          exact t32 k6 hk6 j0 z25 (j2 + (1 : Int32)) j3 hf
  unfold fX0_ascending at hf
  refine g_iconst (v := (0 : Int32)) hC dX0_ascending_0 ci_0 ?_
  refine g_istore_n (lv' := [(1, .int (0 : Int32)), (0, .int j0)]) hC dX0_ascending_1 rfl (by decide) rfl ?_
  refine g_iconst (v := (0 : Int32)) hC dX0_ascending_2 ci_0 ?_
  refine g_istore_n (lv' := [(2, .int (0 : Int32)), (1, .int (0 : Int32)), (0, .int j0)]) hC dX0_ascending_3 rfl (by decide) rfl ?_
  refine g_iconst (v := (0 : Int32)) hC dX0_ascending_4 ci_0 ?_
  refine g_istore_n (lv' := [(3, .int (0 : Int32)), (2, .int (0 : Int32)), (1, .int (0 : Int32)), (0, .int j0)]) hC dX0_ascending_5 rfl (by decide) rfl ?_
  refine g_lv (lv' := [(0, .int j0), (1, .int (0 : Int32)), (2, .int (0 : Int32)), (3, .int (0 : Int32))]) [3, 2, 1, 0] rfl ?_
  exact t6  fu j0 (0 : Int32) (0 : Int32) (0 : Int32) hf
theorem kyX0_at : yX0_at.cls ≠ "java/lang/invoke/MethodHandle" ∧ yX0_at.cls ≠ "java/lang/invoke/VarHandle" ∧ (parseMethodDescriptor yX0_at.desc).map (fun d => d.parameters.length) = some 2 := by decide +kernel
set_option maxHeartbeats 4000000 in
set_option maxRecDepth 100000 in
theorem cX0_at_m (l : Launch) (D : va_G)  (j0 : Int32) (j1 : Int32) (z : Int32) (hf : fX0_at j0 j1 = some z) : ∀ sz : Nat, Met l yX0_at wsX0_at ({ frames := 0, cells := 0, slots := 0, locals := 0 } : Room) (kPre D [] [] sz [.int j0, .int j1]) (kQi D [] [] sz [] z) 0 0 (va_A [] sz) := by
  refine kMet_i (own := RX0) z (fun u => u) (fun u => []) rfl (by decide) rfl ⟨rfl, rfl⟩ (Nat.le_of_ble_eq_true rfl) ?_
  intro X hXl hXD hC hQ
  subst hXl
  subst hXD
  change kG X 0 [(0, .int j0), (1, .int j1)] [] []
  unfold fX0_at at hf
  refine g_iload_n hC 0 dX0_at_0 rfl rfl ?_
  refine g_iconst (v := (4 : Int32)) hC dX0_at_1 ci_4 ?_
  refine g_iload_n hC 1 dX0_at_2 rfl rfl ?_
  refine g_imul hC dX0_at_3 ?_
  refine g_iushr hC dX0_at_4 ?_
  refine g_bipush (v := (15 : Int32)) hC dX0_at_5 cb_15 ?_
  refine g_iand hC dX0_at_7 ?_
  exact hQ ((((j0.toUInt32 >>> (((4 : Int32) * j1).toUInt32 &&& Int32.toUInt32 31)).toInt32) &&& (15 : Int32))) _ _ (gd_s hf) dX0_at_8
theorem kyX0_size : yX0_size.cls ≠ "java/lang/invoke/MethodHandle" ∧ yX0_size.cls ≠ "java/lang/invoke/VarHandle" ∧ (parseMethodDescriptor yX0_size.desc).map (fun d => d.parameters.length) = some 1 := by decide +kernel
set_option maxHeartbeats 4000000 in
set_option maxRecDepth 100000 in
theorem cX0_size_m (l : Launch) (D : va_G)  (j0 : Int32) (z : Int32) (hf : fX0_size j0 = some z) : ∀ sz : Nat, Met l yX0_size wsX0_size ({ frames := 1, cells := 0, slots := 0, locals := 21 } : Room) (kPre D [] [] sz [.int j0]) (kQi D [] [] sz [] z) 0 0 (va_A [] sz) := by
  refine kMet_i (own := RX0) z (fun u => u) (fun u => []) rfl (by decide) rfl ⟨rfl, rfl⟩ (Nat.le_of_ble_eq_true rfl) ?_
  intro X hXl hXD hC hQ
  subst hXl
  subst hXD
  change kG X 0 [(0, .int j0)] [] []
  have t2 : ∀  (n : Nat) (j0 : Int32) (j1 : Int32), lp (fun _ _ => none) (fX0_size_b2_S ) n j0 j1 = some z → kG X 2 [(0, .int j0), (1, .int j1)] [] [] := by
    intro  n
    induction n with
    | zero => intro j0 j1 hf; cases hf
    | succ n hk2 =>
      intro j0 j1 hf
      rw [lp_s] at hf
      revert hf hk2
      generalize lp (fun _ _ => none) (fX0_size_b2_S ) n = k2
      intro hk2 hf
      unfold fX0_size_b2_S at hf
      refine g_iload_n hC 1 dX0_size_2 rfl rfl ?_
      refine g_iconst (v := (5 : Int32)) hC dX0_size_3 ci_5 ?_
      refine g_icmp_ge (tgt := 21) hC dX0_size_4 (by decide) (fun hc => ?_) (fun hc => ?_)
      · replace hf := gd_t hc hf
        refine g_iload_n hC 1 dX0_size_21 rfl rfl ?_
        exact hQ (j1) _ _ (gd_s hf) dX0_size_22
      · replace hf := gd_f hc hf
        refine g_iload_n hC 0 dX0_size_7 rfl rfl ?_
        refine g_iload_n hC 1 dX0_size_8 rfl rfl ?_
        obtain ⟨z9, hz9, hf⟩ := gd_b hf
        refine g_callSi (wr := []) (wn := []) hC [.int j0, .int j1] (cX0_at_m (kl X) (kD X) j0 j1 z9 hz9) gX0_size_X0_at rfl kyX0_at rfl [] [] [] [] rfl rfl rfl rfl (by decide) rfl rfl rfl ⟨rfl, rfl⟩ ⟨Nat.le_of_ble_eq_true rfl, Nat.le_of_ble_eq_true rfl⟩ (Nat.le_of_ble_eq_true rfl) rfl dX0_size_9 ?_
        refine g_if_eq (tgt := 21) hC dX0_size_12 (by decide) (fun hc => ?_) (fun hc => ?_)
        · replace hf := gd_t hc hf
          refine g_iload_n hC 1 dX0_size_21 rfl rfl ?_
          exact hQ (j1) _ _ (gd_s hf) dX0_size_22
        · replace hf := gd_f hc hf
          refine g_iinc (v := (j1 + (1 : Int32))) (lv' := [(1, .int (j1 + (1 : Int32))), (0, .int j0)]) hC 1 dX0_size_15 rfl (ii _ ci_1) (by decide) rfl ?_
          refine g_goto (tgt := 2) hC dX0_size_18 (by decide) ?_
          refine g_lv (lv' := [(0, .int j0), (1, .int (j1 + (1 : Int32)))]) [1, 0] rfl ?_
          exact hk2 j0 (j1 + (1 : Int32)) hf
  unfold fX0_size at hf
  refine g_iconst (v := (0 : Int32)) hC dX0_size_0 ci_0 ?_
  refine g_istore_n (lv' := [(1, .int (0 : Int32)), (0, .int j0)]) hC dX0_size_1 rfl (by decide) rfl ?_
  refine g_lv (lv' := [(0, .int j0), (1, .int (0 : Int32))]) [1, 0] rfl ?_
  exact t2  fu j0 (0 : Int32) hf
theorem kyX0_members : yX0_members.cls ≠ "java/lang/invoke/MethodHandle" ∧ yX0_members.cls ≠ "java/lang/invoke/VarHandle" ∧ (parseMethodDescriptor yX0_members.desc).map (fun d => d.parameters.length) = some 1 := by decide +kernel
set_option maxHeartbeats 4000000 in
set_option maxRecDepth 100000 in
theorem cX0_members_m (l : Launch) (D : va_G)  (j0 : Int32) (z : Int32) (hf : fX0_members j0 = some z) : ∀ sz : Nat, Met l yX0_members wsX0_members ({ frames := 2, cells := 0, slots := 0, locals := 42 } : Room) (kPre D [] [] sz [.int j0]) (kQi D [] [] sz [] z) 0 0 (va_A [] sz) := by
  refine kMet_i (own := RX0) z (fun u => u) (fun u => []) rfl (by decide) rfl ⟨rfl, rfl⟩ (Nat.le_of_ble_eq_true rfl) ?_
  intro X hXl hXD hC hQ
  subst hXl
  subst hXD
  change kG X 0 [(0, .int j0)] [] []
  have t4 : ∀  (n : Nat) (j0 : Int32) (j1 : Int32) (j2 : Int32), lp (fun _ _ _ => none) (fX0_members_b4_S ) n j0 j1 j2 = some z → kG X 4 [(0, .int j0), (1, .int j1), (2, .int j2)] [] [] := by
    intro  n
    induction n with
    | zero => intro j0 j1 j2 hf; cases hf
    | succ n hk4 =>
      intro j0 j1 j2 hf
      rw [lp_s] at hf
      revert hf hk4
      generalize lp (fun _ _ _ => none) (fX0_members_b4_S ) n = k4
      intro hk4 hf
      unfold fX0_members_b4_S at hf
      refine g_iload_n hC 2 dX0_members_4 rfl rfl ?_
      refine g_iload_n hC 0 dX0_members_5 rfl rfl ?_
      obtain ⟨z6, hz6, hf⟩ := gd_b hf
      refine g_callSi (wr := []) (wn := []) hC [.int j0] (cX0_size_m (kl X) (kD X) j0 z6 hz6) gX0_members_X0_size rfl kyX0_size rfl [] [] [] [] rfl rfl rfl rfl (by decide) rfl rfl rfl ⟨rfl, rfl⟩ ⟨Nat.le_of_ble_eq_true rfl, Nat.le_of_ble_eq_true rfl⟩ (Nat.le_of_ble_eq_true rfl) rfl dX0_members_6 ?_
      refine g_icmp_ge (tgt := 30) hC dX0_members_9 (by decide) (fun hc => ?_) (fun hc => ?_)
      · replace hf := gd_t hc hf
        refine g_iload_n hC 1 dX0_members_30 rfl rfl ?_
        exact hQ (j1) _ _ (gd_s hf) dX0_members_31
      · replace hf := gd_f hc hf
        refine g_iload_n hC 1 dX0_members_12 rfl rfl ?_
        refine g_iconst (v := (1 : Int32)) hC dX0_members_13 ci_1 ?_
        refine g_iload_n hC 0 dX0_members_14 rfl rfl ?_
        refine g_iload_n hC 2 dX0_members_15 rfl rfl ?_
        obtain ⟨z16, hz16, hf⟩ := gd_b hf
        refine g_callSi (wr := []) (wn := []) hC [.int j0, .int j2] (cX0_at_m (kl X) (kD X) j0 j2 z16 hz16) gX0_members_X0_at rfl kyX0_at rfl [] [] [] [] rfl rfl rfl rfl (by decide) rfl rfl rfl ⟨rfl, rfl⟩ ⟨Nat.le_of_ble_eq_true rfl, Nat.le_of_ble_eq_true rfl⟩ (Nat.le_of_ble_eq_true rfl) rfl dX0_members_16 ?_
        refine g_iconst (v := (1 : Int32)) hC dX0_members_19 ci_1 ?_
        refine g_isub hC dX0_members_20 ?_
        refine g_ishl hC dX0_members_21 ?_
        refine g_ior hC dX0_members_22 ?_
        refine g_istore_n (lv' := [(1, .int (j1 ||| ((1 : Int32) <<< ((z16 - (1 : Int32)) &&& 31)))), (0, .int j0), (2, .int j2)]) hC dX0_members_23 rfl (by decide) rfl ?_
        refine g_iinc (v := (j2 + (1 : Int32))) (lv' := [(2, .int (j2 + (1 : Int32))), (1, .int (j1 ||| ((1 : Int32) <<< ((z16 - (1 : Int32)) &&& 31)))), (0, .int j0)]) hC 2 dX0_members_24 rfl (ii _ ci_1) (by decide) rfl ?_
        refine g_goto (tgt := 4) hC dX0_members_27 (by decide) ?_
        refine g_lv (lv' := [(0, .int j0), (1, .int (j1 ||| ((1 : Int32) <<< ((z16 - (1 : Int32)) &&& 31)))), (2, .int (j2 + (1 : Int32)))]) [2, 1, 0] rfl ?_
        exact hk4 j0 (j1 ||| ((1 : Int32) <<< ((z16 - (1 : Int32)) &&& 31))) (j2 + (1 : Int32)) hf
  unfold fX0_members at hf
  refine g_iconst (v := (0 : Int32)) hC dX0_members_0 ci_0 ?_
  refine g_istore_n (lv' := [(1, .int (0 : Int32)), (0, .int j0)]) hC dX0_members_1 rfl (by decide) rfl ?_
  refine g_iconst (v := (0 : Int32)) hC dX0_members_2 ci_0 ?_
  refine g_istore_n (lv' := [(2, .int (0 : Int32)), (1, .int (0 : Int32)), (0, .int j0)]) hC dX0_members_3 rfl (by decide) rfl ?_
  refine g_lv (lv' := [(0, .int j0), (1, .int (0 : Int32)), (2, .int (0 : Int32))]) [2, 1, 0] rfl ?_
  exact t4  fu j0 (0 : Int32) (0 : Int32) hf
theorem kyX0_figures : yX0_figures.cls ≠ "java/lang/invoke/MethodHandle" ∧ yX0_figures.cls ≠ "java/lang/invoke/VarHandle" ∧ (parseMethodDescriptor yX0_figures.desc).map (fun d => d.parameters.length) = some 1 := by decide +kernel
set_option maxHeartbeats 4000000 in
set_option maxRecDepth 100000 in
theorem cX0_figures_m (l : Launch) (D : va_G)  (j0 : Int32) (z : Int32) (hf : fX0_figures j0 = some z) : ∀ sz : Nat, Met l yX0_figures wsX0_figures ({ frames := 2, cells := 0, slots := 0, locals := 42 } : Room) (kPre D [] [] sz [.int j0]) (kQi D [] [] sz [] z) 0 0 (va_A [] sz) := by
  refine kMet_i (own := RX0) z (fun u => u) (fun u => []) rfl (by decide) rfl ⟨rfl, rfl⟩ (Nat.le_of_ble_eq_true rfl) ?_
  intro X hXl hXD hC hQ
  subst hXl
  subst hXD
  change kG X 0 [(0, .int j0)] [] []
  have t4 : ∀  (n : Nat) (j0 : Int32) (j1 : Int32) (j2 : Int32), lp (fun _ _ _ => none) (fX0_figures_b4_S ) n j0 j1 j2 = some z → kG X 4 [(0, .int j0), (1, .int j1), (2, .int j2)] [] [] := by
    intro  n
    induction n with
    | zero => intro j0 j1 j2 hf; cases hf
    | succ n hk4 =>
      intro j0 j1 j2 hf
      rw [lp_s] at hf
      revert hf hk4
      generalize lp (fun _ _ _ => none) (fX0_figures_b4_S ) n = k4
      intro hk4 hf
      unfold fX0_figures_b4_S at hf
      refine g_iload_n hC 2 dX0_figures_4 rfl rfl ?_
      refine g_iload_n hC 0 dX0_figures_5 rfl rfl ?_
      obtain ⟨z6, hz6, hf⟩ := gd_b hf
      refine g_callSi (wr := []) (wn := []) hC [.int j0] (cX0_size_m (kl X) (kD X) j0 z6 hz6) gX0_figures_X0_size rfl kyX0_size rfl [] [] [] [] rfl rfl rfl rfl (by decide) rfl rfl rfl ⟨rfl, rfl⟩ ⟨Nat.le_of_ble_eq_true rfl, Nat.le_of_ble_eq_true rfl⟩ (Nat.le_of_ble_eq_true rfl) rfl dX0_figures_6 ?_
      refine g_icmp_ge (tgt := 29) hC dX0_figures_9 (by decide) (fun hc => ?_) (fun hc => ?_)
      · replace hf := gd_t hc hf
        refine g_iload_n hC 1 dX0_figures_29 rfl rfl ?_
        exact hQ (j1) _ _ (gd_s hf) dX0_figures_30
      · replace hf := gd_f hc hf
        refine g_iload_n hC 1 dX0_figures_12 rfl rfl ?_
        refine g_bipush (v := (10 : Int32)) hC dX0_figures_13 cb_10 ?_
        refine g_imul hC dX0_figures_15 ?_
        refine g_iload_n hC 0 dX0_figures_16 rfl rfl ?_
        refine g_iload_n hC 2 dX0_figures_17 rfl rfl ?_
        obtain ⟨z18, hz18, hf⟩ := gd_b hf
        refine g_callSi (wr := []) (wn := []) hC [.int j0, .int j2] (cX0_at_m (kl X) (kD X) j0 j2 z18 hz18) gX0_figures_X0_at rfl kyX0_at rfl [] [] [] [] rfl rfl rfl rfl (by decide) rfl rfl rfl ⟨rfl, rfl⟩ ⟨Nat.le_of_ble_eq_true rfl, Nat.le_of_ble_eq_true rfl⟩ (Nat.le_of_ble_eq_true rfl) rfl dX0_figures_18 ?_
        refine g_iadd hC dX0_figures_21 ?_
        refine g_istore_n (lv' := [(1, .int ((j1 * (10 : Int32)) + z18)), (0, .int j0), (2, .int j2)]) hC dX0_figures_22 rfl (by decide) rfl ?_
        refine g_iinc (v := (j2 + (1 : Int32))) (lv' := [(2, .int (j2 + (1 : Int32))), (1, .int ((j1 * (10 : Int32)) + z18)), (0, .int j0)]) hC 2 dX0_figures_23 rfl (ii _ ci_1) (by decide) rfl ?_
        refine g_goto (tgt := 4) hC dX0_figures_26 (by decide) ?_
        refine g_lv (lv' := [(0, .int j0), (1, .int ((j1 * (10 : Int32)) + z18)), (2, .int (j2 + (1 : Int32)))]) [2, 1, 0] rfl ?_
        exact hk4 j0 ((j1 * (10 : Int32)) + z18) (j2 + (1 : Int32)) hf
  unfold fX0_figures at hf
  refine g_iconst (v := (0 : Int32)) hC dX0_figures_0 ci_0 ?_
  refine g_istore_n (lv' := [(1, .int (0 : Int32)), (0, .int j0)]) hC dX0_figures_1 rfl (by decide) rfl ?_
  refine g_iconst (v := (0 : Int32)) hC dX0_figures_2 ci_0 ?_
  refine g_istore_n (lv' := [(2, .int (0 : Int32)), (1, .int (0 : Int32)), (0, .int j0)]) hC dX0_figures_3 rfl (by decide) rfl ?_
  refine g_lv (lv' := [(0, .int j0), (1, .int (0 : Int32)), (2, .int (0 : Int32))]) [2, 1, 0] rfl ?_
  exact t4  fu j0 (0 : Int32) (0 : Int32) hf
theorem kyX0_without : yX0_without.cls ≠ "java/lang/invoke/MethodHandle" ∧ yX0_without.cls ≠ "java/lang/invoke/VarHandle" ∧ (parseMethodDescriptor yX0_without.desc).map (fun d => d.parameters.length) = some 2 := by decide +kernel
set_option maxHeartbeats 4000000 in
set_option maxRecDepth 100000 in
theorem cX0_without_m (l : Launch) (D : va_G)  (j0 : Int32) (j1 : Int32) (z : Int32) (hf : fX0_without j0 j1 = some z) : ∀ sz : Nat, Met l yX0_without wsX0_without ({ frames := 0, cells := 0, slots := 0, locals := 0 } : Room) (kPre D [] [] sz [.int j0, .int j1]) (kQi D [] [] sz [] z) 0 0 (va_A [] sz) := by
  refine kMet_i (own := RX0) z (fun u => u) (fun u => []) rfl (by decide) rfl ⟨rfl, rfl⟩ (Nat.le_of_ble_eq_true rfl) ?_
  intro X hXl hXD hC hQ
  subst hXl
  subst hXD
  change kG X 0 [(0, .int j0), (1, .int j1)] [] []
  unfold fX0_without at hf
  refine g_iconst (v := (1 : Int32)) hC dX0_without_0 ci_1 ?_
  refine g_iconst (v := (4 : Int32)) hC dX0_without_1 ci_4 ?_
  refine g_iload_n hC 1 dX0_without_2 rfl rfl ?_
  refine g_imul hC dX0_without_3 ?_
  refine g_ishl hC dX0_without_4 ?_
  refine g_iconst (v := (1 : Int32)) hC dX0_without_5 ci_1 ?_
  refine g_isub hC dX0_without_6 ?_
  refine g_istore_n (lv' := [(2, .int (((1 : Int32) <<< (((4 : Int32) * j1) &&& 31)) - (1 : Int32))), (0, .int j0), (1, .int j1)]) hC dX0_without_7 rfl (by decide) rfl ?_
  refine g_iload_n hC 1 dX0_without_8 rfl rfl ?_
  refine g_iload_n hC 0 dX0_without_9 rfl rfl ?_
  refine g_iand hC dX0_without_10 ?_
  refine g_iload_n hC 1 dX0_without_11 rfl rfl ?_
  refine g_iconst (v := (4 : Int32)) hC dX0_without_12 ci_4 ?_
  refine g_iushr hC dX0_without_13 ?_
  refine g_iload_n hC 0 dX0_without_14 rfl rfl ?_
  refine g_iconst (v := (-1 : Int32)) hC dX0_without_15 ci_m1 ?_
  refine g_ixor hC dX0_without_16 ?_
  refine g_iand hC dX0_without_17 ?_
  refine g_ior hC dX0_without_18 ?_
  exact hQ (((j0 &&& (((1 : Int32) <<< (((4 : Int32) * j1) &&& 31)) - (1 : Int32))) ||| (((j0.toUInt32 >>> ((4 : Int32).toUInt32 &&& Int32.toUInt32 31)).toInt32) &&& ((((1 : Int32) <<< (((4 : Int32) * j1) &&& 31)) - (1 : Int32)) ^^^ (-1 : Int32))))) _ _ (gd_s hf) dX0_without_19
theorem kyX0_swapped : yX0_swapped.cls ≠ "java/lang/invoke/MethodHandle" ∧ yX0_swapped.cls ≠ "java/lang/invoke/VarHandle" ∧ (parseMethodDescriptor yX0_swapped.desc).map (fun d => d.parameters.length) = some 3 := by decide +kernel
set_option maxHeartbeats 4000000 in
set_option maxRecDepth 100000 in
theorem cX0_swapped_m (l : Launch) (D : va_G)  (j0 : Int32) (j1 : Int32) (j2 : Int32) (z : Int32) (hf : fX0_swapped j0 j1 j2 = some z) : ∀ sz : Nat, Met l yX0_swapped wsX0_swapped ({ frames := 1, cells := 0, slots := 0, locals := 22 } : Room) (kPre D [] [] sz [.int j0, .int j1, .int j2]) (kQi D [] [] sz [] z) 0 0 (va_A [] sz) := by
  refine kMet_i (own := RX0) z (fun u => u) (fun u => []) rfl (by decide) rfl ⟨rfl, rfl⟩ (Nat.le_of_ble_eq_true rfl) ?_
  intro X hXl hXD hC hQ
  subst hXl
  subst hXD
  change kG X 0 [(0, .int j0), (1, .int j1), (2, .int j2)] [] []
  unfold fX0_swapped at hf
  refine g_iload_n hC 0 dX0_swapped_0 rfl rfl ?_
  refine g_iload_n hC 1 dX0_swapped_1 rfl rfl ?_
  refine g_iload_n hC 0 dX0_swapped_2 rfl rfl ?_
  refine g_iload_n hC 2 dX0_swapped_3 rfl rfl ?_
  obtain ⟨z4, hz4, hf⟩ := gd_b hf
  refine g_callSi (wr := []) (wn := []) hC [.int j0, .int j2] (cX0_at_m (kl X) (kD X) j0 j2 z4 hz4) gX0_swapped_X0_at rfl kyX0_at rfl [] [] [] [] rfl rfl rfl rfl (by decide) rfl rfl rfl ⟨rfl, rfl⟩ ⟨Nat.le_of_ble_eq_true rfl, Nat.le_of_ble_eq_true rfl⟩ (Nat.le_of_ble_eq_true rfl) rfl dX0_swapped_4 ?_
  obtain ⟨z7, hz7, hf⟩ := gd_b hf
  refine g_callSi (wr := []) (wn := []) hC [.int j0, .int j1, .int z4] (cX0_with_m (kl X) (kD X) j0 j1 z4 z7 hz7) gX0_swapped_X0_with rfl kyX0_with rfl [] [] [] [] rfl rfl rfl rfl (by decide) rfl rfl rfl ⟨rfl, rfl⟩ ⟨Nat.le_of_ble_eq_true rfl, Nat.le_of_ble_eq_true rfl⟩ (Nat.le_of_ble_eq_true rfl) rfl dX0_swapped_7 ?_
  refine g_iload_n hC 2 dX0_swapped_10 rfl rfl ?_
  refine g_iload_n hC 0 dX0_swapped_11 rfl rfl ?_
  refine g_iload_n hC 1 dX0_swapped_12 rfl rfl ?_
  obtain ⟨z13, hz13, hf⟩ := gd_b hf
  refine g_callSi (wr := []) (wn := []) hC [.int j0, .int j1] (cX0_at_m (kl X) (kD X) j0 j1 z13 hz13) gX0_swapped_X0_at rfl kyX0_at rfl [] [] [] [] rfl rfl rfl rfl (by decide) rfl rfl rfl ⟨rfl, rfl⟩ ⟨Nat.le_of_ble_eq_true rfl, Nat.le_of_ble_eq_true rfl⟩ (Nat.le_of_ble_eq_true rfl) rfl dX0_swapped_13 ?_
  obtain ⟨z16, hz16, hf⟩ := gd_b hf
  refine g_callSi (wr := []) (wn := []) hC [.int z7, .int j2, .int z13] (cX0_with_m (kl X) (kD X) z7 j2 z13 z16 hz16) gX0_swapped_X0_with rfl kyX0_with rfl [] [] [] [] rfl rfl rfl rfl (by decide) rfl rfl rfl ⟨rfl, rfl⟩ ⟨Nat.le_of_ble_eq_true rfl, Nat.le_of_ble_eq_true rfl⟩ (Nat.le_of_ble_eq_true rfl) rfl dX0_swapped_16 ?_
  exact hQ (z16) _ _ (gd_s hf) dX0_swapped_19
theorem kyX0_nextOrder : yX0_nextOrder.cls ≠ "java/lang/invoke/MethodHandle" ∧ yX0_nextOrder.cls ≠ "java/lang/invoke/VarHandle" ∧ (parseMethodDescriptor yX0_nextOrder.desc).map (fun d => d.parameters.length) = some 1 := by decide +kernel
set_option maxHeartbeats 4000000 in
set_option maxRecDepth 100000 in
theorem cX0_nextOrder_m (l : Launch) (D : va_G)  (j0 : Int32) (z : Int32) (hf : fX0_nextOrder j0 = some z) : ∀ sz : Nat, Met l yX0_nextOrder wsX0_nextOrder ({ frames := 2, cells := 0, slots := 0, locals := 44 } : Room) (kPre D [] [] sz [.int j0]) (kQi D [] [] sz [] z) 0 0 (va_A [] sz) := by
  refine kMet_i (own := RX0) z (fun u => u) (fun u => []) rfl (by decide) rfl ⟨rfl, rfl⟩ (Nat.le_of_ble_eq_true rfl) ?_
  intro X hXl hXD hC hQ
  subst hXl
  subst hXD
  change kG X 0 [(0, .int j0)] [] []
  have t86 : ∀  (n : Nat) (j4 : Int32) (j5 : Int32) (j6 : Int32), lp (fun _ _ _ => none) (fX0_nextOrder_b86_S ) n j4 j5 j6 = some z → kG X 86 [(4, .int j4), (5, .int j5), (6, .int j6)] [] [] := by
    intro  n
    induction n with
    | zero => intro j4 j5 j6 hf; cases hf
    | succ n hk86 =>
      intro j4 j5 j6 hf
      rw [lp_s] at hf
      revert hf hk86
      generalize lp (fun _ _ _ => none) (fX0_nextOrder_b86_S ) n = k86
      intro hk86 hf
      unfold fX0_nextOrder_b86_S at hf
      refine g_iload hC 2 dX0_nextOrder_86 rfl ?_
      refine g_iload hC 1 dX0_nextOrder_88 rfl ?_
      refine g_icmp_ge (tgt := 113) hC dX0_nextOrder_90 (by decide) (fun hc => ?_) (fun hc => ?_)
      · replace hf := gd_t hc hf
        refine g_iload hC 0 dX0_nextOrder_113 rfl ?_
        exact hQ (j4) _ _ (gd_s hf) dX0_nextOrder_115
      · replace hf := gd_f hc hf
        refine g_iload hC 0 dX0_nextOrder_93 rfl ?_
        refine g_iload hC 2 dX0_nextOrder_95 rfl ?_
        refine g_iload hC 1 dX0_nextOrder_97 rfl ?_
        obtain ⟨z99, hz99, hf⟩ := gd_b hf
        refine g_callSi (wr := []) (wn := []) hC [.int j4, .int j6, .int j5] (cX0_swapped_m (kl X) (kD X) j4 j6 j5 z99 hz99) gX0_nextOrder_X0_swapped rfl kyX0_swapped rfl [] [] [] [] rfl rfl rfl rfl (by decide) rfl rfl rfl ⟨rfl, rfl⟩ ⟨Nat.le_of_ble_eq_true rfl, Nat.le_of_ble_eq_true rfl⟩ (Nat.le_of_ble_eq_true rfl) rfl dX0_nextOrder_99 ?_
        refine g_istore (lv' := [(4, .int z99), (5, .int j5), (6, .int j6)]) hC dX0_nextOrder_102 (by decide) rfl ?_
        refine g_iinc (v := (j5 + (-1 : Int32))) (lv' := [(5, .int (j5 + (-1 : Int32))), (4, .int z99), (6, .int j6)]) hC 1 dX0_nextOrder_104 rfl (ii _ ci_m1) (by decide) rfl ?_
        refine g_iinc (v := (j6 + (1 : Int32))) (lv' := [(6, .int (j6 + (1 : Int32))), (5, .int (j5 + (-1 : Int32))), (4, .int z99)]) hC 2 dX0_nextOrder_107 rfl (ii _ ci_1) (by decide) rfl ?_
        refine g_goto (tgt := 86) hC dX0_nextOrder_110 (by decide) ?_
        refine g_lv (lv' := [(4, .int z99), (5, .int (j5 + (-1 : Int32))), (6, .int (j6 + (1 : Int32)))]) [2, 1, 0] rfl ?_
        exact hk86 z99 (j5 + (-1 : Int32)) (j6 + (1 : Int32)) hf
  have t70 : ∀  (j0 : Int32) (j1 : Int32) (j2 : Int32) (j3 : Int32), fX0_nextOrder_b70  j0 j1 j2 j3 = some z → kG X 70 [(0, .int j0), (1, .int j1), (2, .int j2), (3, .int j3)] [] [] := by
    intro j0 j1 j2 j3 hf
    unfold fX0_nextOrder_b70 at hf
    refine g_iload_n hC 0 dX0_nextOrder_70 rfl rfl ?_
    refine g_iload_n hC 2 dX0_nextOrder_71 rfl rfl ?_
    refine g_iload_n hC 3 dX0_nextOrder_72 rfl rfl ?_
    obtain ⟨z73, hz73, hf⟩ := gd_b hf
    refine g_callSi (wr := []) (wn := []) hC [.int j0, .int j2, .int j3] (cX0_swapped_m (kl X) (kD X) j0 j2 j3 z73 hz73) gX0_nextOrder_X0_swapped rfl kyX0_swapped rfl [] [] [] [] rfl rfl rfl rfl (by decide) rfl rfl rfl ⟨rfl, rfl⟩ ⟨Nat.le_of_ble_eq_true rfl, Nat.le_of_ble_eq_true rfl⟩ (Nat.le_of_ble_eq_true rfl) rfl dX0_nextOrder_73 ?_
    refine g_istore (lv' := [(4, .int z73), (0, .int j0), (1, .int j1), (2, .int j2), (3, .int j3)]) hC dX0_nextOrder_76 (by decide) rfl ?_
    refine g_iload_n hC 2 dX0_nextOrder_78 rfl rfl ?_
    refine g_istore (lv' := [(5, .int j1), (4, .int z73), (0, .int j0), (1, .int j1), (2, .int j2), (3, .int j3)]) hC dX0_nextOrder_79 (by decide) rfl ?_
    refine g_iload_n hC 4 dX0_nextOrder_81 rfl rfl ?_
    refine g_iconst (v := (1 : Int32)) hC dX0_nextOrder_82 ci_1 ?_
    refine g_iadd hC dX0_nextOrder_83 ?_
    refine g_istore (lv' := [(6, .int (j2 + (1 : Int32))), (5, .int j1), (4, .int z73), (0, .int j0), (1, .int j1), (2, .int j2), (3, .int j3)]) hC dX0_nextOrder_84 (by decide) rfl ?_
    refine g_lv (lv' := [(4, .int z73), (5, .int j1), (6, .int (j2 + (1 : Int32)))]) [2, 1, 0] rfl ?_
    exact t86  fu z73 j1 (j2 + (1 : Int32)) hf
  have t44 : ∀  (n : Nat) (j0 : Int32) (j1 : Int32) (j2 : Int32) (j3 : Int32), lp (fun _ _ _ _ => none) (fX0_nextOrder_b44_S ) n j0 j1 j2 j3 = some z → kG X 44 [(0, .int j0), (1, .int j1), (2, .int j2), (3, .int j3)] [] [] := by
    intro  n
    induction n with
    | zero => intro j0 j1 j2 j3 hf; cases hf
    | succ n hk44 =>
      intro j0 j1 j2 j3 hf
      rw [lp_s] at hf
      revert hf hk44
      generalize lp (fun _ _ _ _ => none) (fX0_nextOrder_b44_S ) n = k44
      intro hk44 hf
      unfold fX0_nextOrder_b44_S at hf
      refine g_iload_n hC 3 dX0_nextOrder_44 rfl rfl ?_
      refine g_iload_n hC 2 dX0_nextOrder_45 rfl rfl ?_
      refine g_iconst (v := (1 : Int32)) hC dX0_nextOrder_46 ci_1 ?_
      refine g_iadd hC dX0_nextOrder_47 ?_
      refine g_icmp_le (tgt := 70) hC dX0_nextOrder_48 (by decide) (fun hc => ?_) (fun hc => ?_)
      · replace hf := gd_t hc hf
        exact t70  j0 j1 j2 j3 hf
      · replace hf := gd_f hc hf
        refine g_iload_n hC 0 dX0_nextOrder_51 rfl rfl ?_
        refine g_iload_n hC 3 dX0_nextOrder_52 rfl rfl ?_
        obtain ⟨z53, hz53, hf⟩ := gd_b hf
        refine g_callSi (wr := []) (wn := []) hC [.int j0, .int j3] (cX0_at_m (kl X) (kD X) j0 j3 z53 hz53) gX0_nextOrder_X0_at rfl kyX0_at rfl [] [] [] [] rfl rfl rfl rfl (by decide) rfl rfl rfl ⟨rfl, rfl⟩ ⟨Nat.le_of_ble_eq_true rfl, Nat.le_of_ble_eq_true rfl⟩ (Nat.le_of_ble_eq_true rfl) rfl dX0_nextOrder_53 ?_
        refine g_iload_n hC 0 dX0_nextOrder_56 rfl rfl ?_
        refine g_iload_n hC 2 dX0_nextOrder_57 rfl rfl ?_
        obtain ⟨z58, hz58, hf⟩ := gd_b hf
        refine g_callSi (wr := []) (wn := []) hC [.int j0, .int j2] (cX0_at_m (kl X) (kD X) j0 j2 z58 hz58) gX0_nextOrder_X0_at rfl kyX0_at rfl [] [] [] [] rfl rfl rfl rfl (by decide) rfl rfl rfl ⟨rfl, rfl⟩ ⟨Nat.le_of_ble_eq_true rfl, Nat.le_of_ble_eq_true rfl⟩ (Nat.le_of_ble_eq_true rfl) rfl dX0_nextOrder_58 ?_
        refine g_icmp_ge (tgt := 70) hC dX0_nextOrder_61 (by decide) (fun hc => ?_) (fun hc => ?_)
        · replace hf := gd_t hc hf
          exact t70  j0 j1 j2 j3 hf
        · replace hf := gd_f hc hf
          refine g_iinc (v := (j3 + (-1 : Int32))) (lv' := [(3, .int (j3 + (-1 : Int32))), (0, .int j0), (1, .int j1), (2, .int j2)]) hC 3 dX0_nextOrder_64 rfl (ii _ ci_m1) (by decide) rfl ?_
          refine g_goto (tgt := 44) hC dX0_nextOrder_67 (by decide) ?_
          refine g_lv (lv' := [(0, .int j0), (1, .int j1), (2, .int j2), (3, .int (j3 + (-1 : Int32)))]) [1, 2, 3, 0] rfl ?_
          exact hk44 j0 j1 j2 (j3 + (-1 : Int32)) hf
  have t36 : ∀  (j0 : Int32) (j1 : Int32) (j2 : Int32), fX0_nextOrder_b36  j0 j1 j2 = some z → kG X 36 [(0, .int j0), (1, .int j1), (2, .int j2)] [] [] := by
    intro j0 j1 j2 hf
    unfold fX0_nextOrder_b36 at hf
    refine g_iload_n hC 2 dX0_nextOrder_36 rfl rfl ?_
    refine g_if_ge (tgt := 42) hC dX0_nextOrder_37 (by decide) (fun hc => ?_) (fun hc => ?_)
    · replace hf := gd_t hc hf
      refine g_iload_n hC 1 dX0_nextOrder_42 rfl rfl ?_
      refine g_istore_n (lv' := [(3, .int j1), (0, .int j0), (1, .int j1), (2, .int j2)]) hC dX0_nextOrder_43 rfl (by decide) rfl ?_
      refine g_lv (lv' := [(0, .int j0), (1, .int j1), (2, .int j2), (3, .int j1)]) [1, 2, 3, 0] rfl ?_
      exact t44  fu j0 j1 j2 j1 hf
    · replace hf := gd_f hc hf
      refine g_iconst (v := (0 : Int32)) hC dX0_nextOrder_40 ci_0 ?_
      exact hQ ((0 : Int32)) _ _ (gd_s hf) dX0_nextOrder_41
  have t11 : ∀  (n : Nat) (j0 : Int32) (j1 : Int32) (j2 : Int32), lp (fun _ _ _ => none) (fX0_nextOrder_b11_S ) n j0 j1 j2 = some z → kG X 11 [(0, .int j0), (1, .int j1), (2, .int j2)] [] [] := by
    intro  n
    induction n with
    | zero => intro j0 j1 j2 hf; cases hf
    | succ n hk11 =>
      intro j0 j1 j2 hf
      rw [lp_s] at hf
      revert hf hk11
      generalize lp (fun _ _ _ => none) (fX0_nextOrder_b11_S ) n = k11
      intro hk11 hf
      unfold fX0_nextOrder_b11_S at hf
      refine g_iload_n hC 2 dX0_nextOrder_11 rfl rfl ?_
      refine g_if_lt (tgt := 36) hC dX0_nextOrder_12 (by decide) (fun hc => ?_) (fun hc => ?_)
      · replace hf := gd_t hc hf
        exact t36  j0 j1 j2 hf
      · replace hf := gd_f hc hf
        refine g_iload_n hC 0 dX0_nextOrder_15 rfl rfl ?_
        refine g_iload_n hC 2 dX0_nextOrder_16 rfl rfl ?_
        obtain ⟨z17, hz17, hf⟩ := gd_b hf
        refine g_callSi (wr := []) (wn := []) hC [.int j0, .int j2] (cX0_at_m (kl X) (kD X) j0 j2 z17 hz17) gX0_nextOrder_X0_at rfl kyX0_at rfl [] [] [] [] rfl rfl rfl rfl (by decide) rfl rfl rfl ⟨rfl, rfl⟩ ⟨Nat.le_of_ble_eq_true rfl, Nat.le_of_ble_eq_true rfl⟩ (Nat.le_of_ble_eq_true rfl) rfl dX0_nextOrder_17 ?_
        refine g_iload_n hC 0 dX0_nextOrder_20 rfl rfl ?_
        refine g_iload_n hC 2 dX0_nextOrder_21 rfl rfl ?_
        refine g_iconst (v := (1 : Int32)) hC dX0_nextOrder_22 ci_1 ?_
        refine g_iadd hC dX0_nextOrder_23 ?_
        obtain ⟨z24, hz24, hf⟩ := gd_b hf
        refine g_callSi (wr := []) (wn := []) hC [.int j0, .int (j2 + (1 : Int32))] (cX0_at_m (kl X) (kD X) j0 (j2 + (1 : Int32)) z24 hz24) gX0_nextOrder_X0_at rfl kyX0_at rfl [] [] [] [] rfl rfl rfl rfl (by decide) rfl rfl rfl ⟨rfl, rfl⟩ ⟨Nat.le_of_ble_eq_true rfl, Nat.le_of_ble_eq_true rfl⟩ (Nat.le_of_ble_eq_true rfl) rfl dX0_nextOrder_24 ?_
        refine g_icmp_le (tgt := 36) hC dX0_nextOrder_27 (by decide) (fun hc => ?_) (fun hc => ?_)
        · replace hf := gd_t hc hf
          exact t36  j0 j1 j2 hf
        · replace hf := gd_f hc hf
          refine g_iinc (v := (j2 + (-1 : Int32))) (lv' := [(2, .int (j2 + (-1 : Int32))), (0, .int j0), (1, .int j1)]) hC 2 dX0_nextOrder_30 rfl (ii _ ci_m1) (by decide) rfl ?_
          refine g_goto (tgt := 11) hC dX0_nextOrder_33 (by decide) ?_
          refine g_lv (lv' := [(0, .int j0), (1, .int j1), (2, .int (j2 + (-1 : Int32)))]) [1, 2, 0] rfl ?_
          exact hk11 j0 j1 (j2 + (-1 : Int32)) hf
  unfold fX0_nextOrder at hf
  refine g_iload_n hC 0 dX0_nextOrder_0 rfl rfl ?_
  obtain ⟨z1, hz1, hf⟩ := gd_b hf
  refine g_callSi (wr := []) (wn := []) hC [.int j0] (cX0_size_m (kl X) (kD X) j0 z1 hz1) gX0_nextOrder_X0_size rfl kyX0_size rfl [] [] [] [] rfl rfl rfl rfl (by decide) rfl rfl rfl ⟨rfl, rfl⟩ ⟨Nat.le_of_ble_eq_true rfl, Nat.le_of_ble_eq_true rfl⟩ (Nat.le_of_ble_eq_true rfl) rfl dX0_nextOrder_1 ?_
  refine g_iconst (v := (1 : Int32)) hC dX0_nextOrder_4 ci_1 ?_
  refine g_isub hC dX0_nextOrder_5 ?_
  refine g_istore_n (lv' := [(1, .int (z1 - (1 : Int32))), (0, .int j0)]) hC dX0_nextOrder_6 rfl (by decide) rfl ?_
  refine g_iload_n hC 0 dX0_nextOrder_7 rfl rfl ?_
  refine g_iconst (v := (1 : Int32)) hC dX0_nextOrder_8 ci_1 ?_
  refine g_isub hC dX0_nextOrder_9 ?_
  refine g_istore_n (lv' := [(2, .int ((z1 - (1 : Int32)) - (1 : Int32))), (1, .int (z1 - (1 : Int32))), (0, .int j0)]) hC dX0_nextOrder_10 rfl (by decide) rfl ?_
  refine g_lv (lv' := [(0, .int j0), (1, .int (z1 - (1 : Int32))), (2, .int ((z1 - (1 : Int32)) - (1 : Int32)))]) [2, 1, 0] rfl ?_
  exact t11  fu j0 (z1 - (1 : Int32)) ((z1 - (1 : Int32)) - (1 : Int32)) hf
theorem kyX0_only : yX0_only.cls ≠ "java/lang/invoke/MethodHandle" ∧ yX0_only.cls ≠ "java/lang/invoke/VarHandle" ∧ (parseMethodDescriptor yX0_only.desc).map (fun d => d.parameters.length) = some 2 := by decide +kernel
set_option maxHeartbeats 4000000 in
set_option maxRecDepth 100000 in
theorem cX0_only_m (l : Launch) (D : va_G)  (j0 : Int32) (j1 : Int32) (z : Int32) (hf : fX0_only j0 j1 = some z) : ∀ sz : Nat, Met l yX0_only wsX0_only ({ frames := 2, cells := 0, slots := 0, locals := 42 } : Room) (kPre D [] [] sz [.int j0, .int j1]) (kQi D [] [] sz [] z) 0 0 (va_A [] sz) := by
  refine kMet_i (own := RX0) z (fun u => u) (fun u => []) rfl (by decide) rfl ⟨rfl, rfl⟩ (Nat.le_of_ble_eq_true rfl) ?_
  intro X hXl hXD hC hQ
  subst hXl
  subst hXD
  change kG X 0 [(0, .int j0), (1, .int j1)] [] []
  have t33 : ∀ (k9 : Int32 → Int32 → Int32 → Int32 → Option (Int32)) (hk9 : ∀ (j0 : Int32) (j1 : Int32) (j2 : Int32) (j3 : Int32), k9 j0 j1 j2 j3 = some z → kG X 9 [(0, .int j0), (1, .int j1), (2, .int j2), (3, .int j3)] [] []) (j0 : Int32) (j1 : Int32) (j2 : Int32) (j3 : Int32), fX0_only_b33 k9 j0 j1 j2 j3 = some z → kG X 33 [(0, .int j0), (1, .int j1), (2, .int j2), (3, .int j3)] [] [] := by
    intro k9 hk9 j0 j1 j2 j3 hf
    unfold fX0_only_b33 at hf
    refine g_iinc (v := (j3 + (-1 : Int32))) (lv' := [(3, .int (j3 + (-1 : Int32))), (0, .int j0), (1, .int j1), (2, .int j2)]) hC 3 dX0_only_33 rfl (ii _ ci_m1) (by decide) rfl ?_
    refine g_goto (tgt := 9) hC dX0_only_36 (by decide) ?_
    refine g_lv (lv' := [(0, .int j0), (1, .int j1), (2, .int j2), (3, .int (j3 + (-1 : Int32)))]) [1, 2, 3, 0] rfl ?_
    exact hk9 j0 j1 j2 (j3 + (-1 : Int32)) hf
  have t9 : ∀  (n : Nat) (j0 : Int32) (j1 : Int32) (j2 : Int32) (j3 : Int32), lp (fun _ _ _ _ => none) (fX0_only_b9_S ) n j0 j1 j2 j3 = some z → kG X 9 [(0, .int j0), (1, .int j1), (2, .int j2), (3, .int j3)] [] [] := by
    intro  n
    induction n with
    | zero => intro j0 j1 j2 j3 hf; cases hf
    | succ n hk9 =>
      intro j0 j1 j2 j3 hf
      rw [lp_s] at hf
      revert hf hk9
      generalize lp (fun _ _ _ _ => none) (fX0_only_b9_S ) n = k9
      intro hk9 hf
      unfold fX0_only_b9_S at hf
      refine g_iload_n hC 3 dX0_only_9 rfl rfl ?_
      refine g_if_lt (tgt := 39) hC dX0_only_10 (by decide) (fun hc => ?_) (fun hc => ?_)
      · replace hf := gd_t hc hf
        refine g_iload_n hC 2 dX0_only_39 rfl rfl ?_
        exact hQ (j2) _ _ (gd_s hf) dX0_only_40
      · replace hf := gd_f hc hf
        refine g_iload_n hC 1 dX0_only_13 rfl rfl ?_
        refine g_iload_n hC 0 dX0_only_14 rfl rfl ?_
        refine g_iload_n hC 3 dX0_only_15 rfl rfl ?_
        obtain ⟨z16, hz16, hf⟩ := gd_b hf
        refine g_callSi (wr := []) (wn := []) hC [.int j0, .int j3] (cX0_at_m (kl X) (kD X) j0 j3 z16 hz16) gX0_only_X0_at rfl kyX0_at rfl [] [] [] [] rfl rfl rfl rfl (by decide) rfl rfl rfl ⟨rfl, rfl⟩ ⟨Nat.le_of_ble_eq_true rfl, Nat.le_of_ble_eq_true rfl⟩ (Nat.le_of_ble_eq_true rfl) rfl dX0_only_16 ?_
        refine g_iconst (v := (1 : Int32)) hC dX0_only_19 ci_1 ?_
        refine g_isub hC dX0_only_20 ?_
        refine g_ishr hC dX0_only_21 ?_
        refine g_iconst (v := (1 : Int32)) hC dX0_only_22 ci_1 ?_
        refine g_iand hC dX0_only_23 ?_
        refine g_if_ne (tgt := 33) hC dX0_only_24 (by decide) (fun hc => ?_) (fun hc => ?_)
        · replace hf := gd_f hc hf
          exact t33 k9 hk9 j0 j1 j2 j3 hf
        · replace hf := gd_t hc hf
          refine g_iload_n hC 2 dX0_only_27 rfl rfl ?_
          refine g_iload_n hC 3 dX0_only_28 rfl rfl ?_
          obtain ⟨z29, hz29, hf⟩ := gd_b hf
          refine g_callSi (wr := []) (wn := []) hC [.int j2, .int j3] (cX0_without_m (kl X) (kD X) j2 j3 z29 hz29) gX0_only_X0_without rfl kyX0_without rfl [] [] [] [] rfl rfl rfl rfl (by decide) rfl rfl rfl ⟨rfl, rfl⟩ ⟨Nat.le_of_ble_eq_true rfl, Nat.le_of_ble_eq_true rfl⟩ (Nat.le_of_ble_eq_true rfl) rfl dX0_only_29 ?_
          refine g_istore_n (lv' := [(2, .int z29), (0, .int j0), (1, .int j1), (3, .int j3)]) hC dX0_only_32 rfl (by decide) rfl ?_
          refine g_lv (lv' := [(0, .int j0), (1, .int j1), (2, .int z29), (3, .int j3)]) [1, 2, 0, 3] rfl ?_
          exact t33 k9 hk9 j0 j1 z29 j3 hf
  unfold fX0_only at hf
  refine g_iload_n hC 0 dX0_only_0 rfl rfl ?_
  refine g_istore_n (lv' := [(2, .int j0), (0, .int j0), (1, .int j1)]) hC dX0_only_1 rfl (by decide) rfl ?_
  refine g_iload_n hC 1 dX0_only_2 rfl rfl ?_
  obtain ⟨z3, hz3, hf⟩ := gd_b hf
  refine g_callSi (wr := []) (wn := []) hC [.int j0] (cX0_size_m (kl X) (kD X) j0 z3 hz3) gX0_only_X0_size rfl kyX0_size rfl [] [] [] [] rfl rfl rfl rfl (by decide) rfl rfl rfl ⟨rfl, rfl⟩ ⟨Nat.le_of_ble_eq_true rfl, Nat.le_of_ble_eq_true rfl⟩ (Nat.le_of_ble_eq_true rfl) rfl dX0_only_3 ?_
  refine g_iconst (v := (1 : Int32)) hC dX0_only_6 ci_1 ?_
  refine g_isub hC dX0_only_7 ?_
  refine g_istore_n (lv' := [(3, .int (z3 - (1 : Int32))), (2, .int j0), (0, .int j0), (1, .int j1)]) hC dX0_only_8 rfl (by decide) rfl ?_
  refine g_lv (lv' := [(0, .int j0), (1, .int j1), (2, .int j0), (3, .int (z3 - (1 : Int32)))]) [2, 3, 1, 0] rfl ?_
  exact t9  fu j0 j1 j0 (z3 - (1 : Int32)) hf
