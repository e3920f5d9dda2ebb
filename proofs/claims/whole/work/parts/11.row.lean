theorem kyX4_write : yX4_write.cls = RX4 ∧ yX4_write.cls ≠ "java/lang/invoke/MethodHandle" ∧ yX4_write.cls ≠ "java/lang/invoke/VarHandle" ∧ (parseMethodDescriptor yX4_write.desc).map (fun d => d.parameters.length) = some 1 := by decide +kernel
set_option maxHeartbeats 4000000 in
set_option maxRecDepth 100000 in
theorem cX4_write_m (l : Launch) (D : va_G) (aG aT aB aP aW1 aW2 aAC aKE : Nat) (iB : ClassId) (xG_actCount : Int32) (xG_heardMinutes : Int32) (xG_silentMinutes : Int32) (xG_toldCount : Int32) (xG_seedNow : Int64) (xT_length : Int32) (xB : Nat → Int32) (j1 : Int32) (z : Int32 × Int32 × (Nat → Int32)) (hf : fX4_write j1 xT_length xB = some z) : ∀ sz : Nat, Met l yX4_write wsX4_write ({ frames := 1, cells := 0, slots := 0, locals := 22 } : Room) (kPre D [(iB, .int)] [oO aG 3 [.ref aT, .ref aP, .ref aW1, .ref aW2, .ref aAC, .int xG_actCount, .ref aKE, .int xG_heardMinutes, .int xG_silentMinutes, .int xG_toldCount, .long xG_seedNow], oO aT 1 [.ref aB, .int xT_length], oI aB iB 32 xB] sz [.ref aG, .int j1]) (kQi D [(iB, .int)] [oO aG 3 [.ref aT, .ref aP, .ref aW1, .ref aW2, .ref aAC, .int xG_actCount, .ref aKE, .int xG_heardMinutes, .int xG_silentMinutes, .int xG_toldCount, .long xG_seedNow], oO aT 1 [.ref aB, .int xT_length], oI aB iB 32 xB] sz [oO aG 3 [.ref aT, .ref aP, .ref aW1, .ref aW2, .ref aAC, .int xG_actCount, .ref aKE, .int xG_heardMinutes, .int xG_silentMinutes, .int xG_toldCount, .long xG_seedNow], oO aT 1 [.ref aB, .int z.2.1], oI aB iB 32 z.2.2] z.1) 0 0 (va_A [oO aG 3 [.ref aT, .ref aP, .ref aW1, .ref aW2, .ref aAC, .int xG_actCount, .ref aKE, .int xG_heardMinutes, .int xG_silentMinutes, .int xG_toldCount, .long xG_seedNow], oO aT 1 [.ref aB, .int xT_length], oI aB iB 32 xB] sz) := by
  refine kMet_i (own := RX4) z (fun u => u.1) (fun u => [oO aG 3 [.ref aT, .ref aP, .ref aW1, .ref aW2, .ref aAC, .int xG_actCount, .ref aKE, .int xG_heardMinutes, .int xG_silentMinutes, .int xG_toldCount, .long xG_seedNow], oO aT 1 [.ref aB, .int u.2.1], oI aB iB 32 u.2.2]) rfl (by decide) rfl ⟨rfl, rfl⟩ (Nat.le_of_ble_eq_true rfl) ?_
  intro X hXl hXD hC hQ
  subst hXl
  subst hXD
  change kG X 0 [(0, .ref aG), (1, .int j1)] [] [oO aG 3 [.ref aT, .ref aP, .ref aW1, .ref aW2, .ref aAC, .int xG_actCount, .ref aKE, .int xG_heardMinutes, .int xG_silentMinutes, .int xG_toldCount, .long xG_seedNow], oO aT 1 [.ref aB, .int xT_length], oI aB iB 32 xB]
  have hinX4 : ∀ w ∈ wsX40, w ∈ wsX4_write := fun _ h => List.mem_cons_of_mem _ (List.mem_append_left _ (List.mem_append_right _ h))
  unfold fX4_write at hf
  refine g_iload_n hC 1 dX4_write_0 rfl rfl ?_
  refine g_iconst (v := (0 : Int32)) hC dX4_write_1 ci_0 ?_
  refine g_sipush (v := (255 : Int32)) hC dX4_write_2 cs_255 ?_
  obtain ⟨z5, hz5, hf⟩ := gd_b hf
  refine g_callSi (wr := [oO aG 3 [.ref aT, .ref aP, .ref aW1, .ref aW2, .ref aAC, .int xG_actCount, .ref aKE, .int xG_heardMinutes, .int xG_silentMinutes, .int xG_toldCount, .long xG_seedNow], oO aT 1 [.ref aB, .int xT_length], oI aB iB 32 xB]) (wn := [oO aG 3 [.ref aT, .ref aP, .ref aW1, .ref aW2, .ref aAC, .int xG_actCount, .ref aKE, .int xG_heardMinutes, .int xG_silentMinutes, .int xG_toldCount, .long xG_seedNow], oO aT 1 [.ref aB, .int xT_length], oI aB iB 32 xB]) hC [.int j1, .int (0 : Int32), .int (255 : Int32)] (cX4_within_m (kl X) (kD X) j1 (0 : Int32) (255 : Int32) z5 hz5) gX4_write_X4_within rfl kyX4_within rfl [] [0, 1, 2] [] [0, 1, 2] rfl rfl rfl rfl (by decide) rfl rfl rfl ⟨rfl, rfl⟩ ⟨Nat.le_of_ble_eq_true rfl, Nat.le_of_ble_eq_true rfl⟩ (Nat.le_of_ble_eq_true rfl) rfl dX4_write_5 ?_
  refine g_if_ne (tgt := 14) hC dX4_write_8 (by decide) (fun hc => ?_) (fun hc => ?_)
  · replace hf := gd_f hc hf
    refine g_aload_n hC 0 dX4_write_14 rfl rfl ?_
    refine g_get (C := RX4) (T := TX4) (N := 11) (v := .ref aT) hC hinX4 0 0 rfl rfl (by decide) (List.mem_of_getElem? (i := 1) rfl) rfl dX4_write_15 ?_
    refine g_iload_n hC 1 dX4_write_18 rfl rfl ?_
    obtain ⟨z19, hz19, hf⟩ := gd_b hf
    refine g_callVi (wr := [oO aG 3 [.ref aT, .ref aP, .ref aW1, .ref aW2, .ref aAC, .int xG_actCount, .ref aKE, .int xG_heardMinutes, .int xG_silentMinutes, .int xG_toldCount, .long xG_seedNow]]) (wn := [oO aG 3 [.ref aT, .ref aP, .ref aW1, .ref aW2, .ref aAC, .int xG_actCount, .ref aKE, .int xG_heardMinutes, .int xG_silentMinutes, .int xG_toldCount, .long xG_seedNow], oO aT 1 [.ref aB, .int z19.2.1], oI aB iB 32 z19.2.2]) hC [.int j1] (cX2_append_m (kl X) (kD X) aT aB iB xT_length xB j1 z19 hz19) gX4_write_X2_append rfl kyX2_append rfl rfl rfl (q0 := 0) rfl [1, 2] [0] [0] [0, 1, 2] rfl rfl rfl rfl (by decide) rfl rfl rfl ⟨rfl, rfl⟩ ⟨Nat.le_of_ble_eq_true rfl, Nat.le_of_ble_eq_true rfl⟩ (Nat.le_of_ble_eq_true rfl) rfl dX4_write_19 ?_
    refine g_if_eq (tgt := 35) hC dX4_write_22 (by decide) (fun hc => ?_) (fun hc => ?_)
    · replace hf := gd_t hc hf
      refine g_bipush (v := (-4 : Int32)) hC dX4_write_35 cb_m4 ?_
      exact hQ ((-4 : Int32), z19.2.1, z19.2.2) _ _ (gd_s hf) dX4_write_37
    · replace hf := gd_f hc hf
      refine g_aload_n hC 0 dX4_write_25 rfl rfl ?_
      refine g_get (C := RX4) (T := TX4) (N := 11) (v := .ref aT) hC hinX4 0 0 rfl rfl (by decide) (List.mem_of_getElem? (i := 1) rfl) rfl dX4_write_26 ?_
      obtain ⟨z29, hz29, hf⟩ := gd_b hf
      refine g_callVi (wr := [oO aG 3 [.ref aT, .ref aP, .ref aW1, .ref aW2, .ref aAC, .int xG_actCount, .ref aKE, .int xG_heardMinutes, .int xG_silentMinutes, .int xG_toldCount, .long xG_seedNow], oI aB iB 32 z19.2.2]) (wn := [oO aG 3 [.ref aT, .ref aP, .ref aW1, .ref aW2, .ref aAC, .int xG_actCount, .ref aKE, .int xG_heardMinutes, .int xG_silentMinutes, .int xG_toldCount, .long xG_seedNow], oO aT 1 [.ref aB, .int z19.2.1], oI aB iB 32 z19.2.2]) hC [] (cX2_length_m (kl X) (kD X) aT aB z19.2.1 z29 hz29) gX4_write_X2_length rfl kyX2_length rfl rfl rfl (q0 := 0) rfl [1] [0, 2] [] [0, 2, 1] rfl rfl rfl rfl (by decide) rfl rfl rfl ⟨rfl, rfl⟩ ⟨Nat.le_of_ble_eq_true rfl, Nat.le_of_ble_eq_true rfl⟩ (Nat.le_of_ble_eq_true rfl) rfl dX4_write_29 ?_
      refine g_goto (tgt := 37) hC dX4_write_32 (by decide) ?_
      exact hQ (z29, z19.2.1, z19.2.2) _ _ (gd_s hf) dX4_write_37
  · replace hf := gd_t hc hf
    refine g_bipush (v := (-2 : Int32)) hC dX4_write_11 cb_m2 ?_
    exact hQ ((-2 : Int32), xT_length, xB) _ _ (gd_s hf) dX4_write_13
theorem kyX4_wipe : yX4_wipe.cls = RX4 ∧ yX4_wipe.cls ≠ "java/lang/invoke/MethodHandle" ∧ yX4_wipe.cls ≠ "java/lang/invoke/VarHandle" ∧ (parseMethodDescriptor yX4_wipe.desc).map (fun d => d.parameters.length) = some 0 := by decide +kernel
set_option maxHeartbeats 4000000 in
set_option maxRecDepth 100000 in
theorem cX4_wipe_m (l : Launch) (D : va_G) (aG aT aB aP aW1 aW2 aAC aKE : Nat) (xG_actCount : Int32) (xG_heardMinutes : Int32) (xG_silentMinutes : Int32) (xG_toldCount : Int32) (xG_seedNow : Int64) (xT_length : Int32)  (z : Int32 × Int32) (hf : fX4_wipe xT_length = some z) : ∀ sz : Nat, Met l yX4_wipe wsX4_wipe ({ frames := 1, cells := 0, slots := 0, locals := 20 } : Room) (kPre D [] [oO aG 3 [.ref aT, .ref aP, .ref aW1, .ref aW2, .ref aAC, .int xG_actCount, .ref aKE, .int xG_heardMinutes, .int xG_silentMinutes, .int xG_toldCount, .long xG_seedNow], oO aT 1 [.ref aB, .int xT_length]] sz [.ref aG]) (kQi D [] [oO aG 3 [.ref aT, .ref aP, .ref aW1, .ref aW2, .ref aAC, .int xG_actCount, .ref aKE, .int xG_heardMinutes, .int xG_silentMinutes, .int xG_toldCount, .long xG_seedNow], oO aT 1 [.ref aB, .int xT_length]] sz [oO aG 3 [.ref aT, .ref aP, .ref aW1, .ref aW2, .ref aAC, .int xG_actCount, .ref aKE, .int xG_heardMinutes, .int xG_silentMinutes, .int xG_toldCount, .long xG_seedNow], oO aT 1 [.ref aB, .int z.2]] z.1) 0 0 (va_A [oO aG 3 [.ref aT, .ref aP, .ref aW1, .ref aW2, .ref aAC, .int xG_actCount, .ref aKE, .int xG_heardMinutes, .int xG_silentMinutes, .int xG_toldCount, .long xG_seedNow], oO aT 1 [.ref aB, .int xT_length]] sz) := by
  refine kMet_i (own := RX4) z (fun u => u.1) (fun u => [oO aG 3 [.ref aT, .ref aP, .ref aW1, .ref aW2, .ref aAC, .int xG_actCount, .ref aKE, .int xG_heardMinutes, .int xG_silentMinutes, .int xG_toldCount, .long xG_seedNow], oO aT 1 [.ref aB, .int u.2]]) rfl (by decide) rfl ⟨rfl, rfl⟩ (Nat.le_of_ble_eq_true rfl) ?_
  intro X hXl hXD hC hQ
  subst hXl
  subst hXD
  change kG X 0 [(0, .ref aG)] [] [oO aG 3 [.ref aT, .ref aP, .ref aW1, .ref aW2, .ref aAC, .int xG_actCount, .ref aKE, .int xG_heardMinutes, .int xG_silentMinutes, .int xG_toldCount, .long xG_seedNow], oO aT 1 [.ref aB, .int xT_length]]
  have hinX4 : ∀ w ∈ wsX40, w ∈ wsX4_wipe := fun _ h => List.mem_cons_of_mem _ (List.mem_append_left _ (List.mem_append_right _ h))
  unfold fX4_wipe at hf
  refine g_aload_n hC 0 dX4_wipe_0 rfl rfl ?_
  refine g_get (C := RX4) (T := TX4) (N := 11) (v := .ref aT) hC hinX4 0 0 rfl rfl (by decide) (List.mem_of_getElem? (i := 1) rfl) rfl dX4_wipe_1 ?_
  obtain ⟨z4, hz4, hf⟩ := gd_b hf
  refine g_callVi (wr := [oO aG 3 [.ref aT, .ref aP, .ref aW1, .ref aW2, .ref aAC, .int xG_actCount, .ref aKE, .int xG_heardMinutes, .int xG_silentMinutes, .int xG_toldCount, .long xG_seedNow]]) (wn := [oO aG 3 [.ref aT, .ref aP, .ref aW1, .ref aW2, .ref aAC, .int xG_actCount, .ref aKE, .int xG_heardMinutes, .int xG_silentMinutes, .int xG_toldCount, .long xG_seedNow], oO aT 1 [.ref aB, .int xT_length]]) hC [] (cX2_length_m (kl X) (kD X) aT aB xT_length z4 hz4) gX4_wipe_X2_length rfl kyX2_length rfl rfl rfl (q0 := 0) rfl [1] [0] [] [0, 1] rfl rfl rfl rfl (by decide) rfl rfl rfl ⟨rfl, rfl⟩ ⟨Nat.le_of_ble_eq_true rfl, Nat.le_of_ble_eq_true rfl⟩ (Nat.le_of_ble_eq_true rfl) rfl dX4_wipe_4 ?_
  refine g_istore_n (lv' := [(1, .int z4), (0, .ref aG)]) hC dX4_wipe_7 rfl (by decide) rfl ?_
  refine g_aload_n hC 1 dX4_wipe_8 rfl rfl ?_
  refine g_get (C := RX4) (T := TX4) (N := 11) (v := .ref aT) hC hinX4 0 0 rfl rfl (by decide) (List.mem_of_getElem? (i := 1) rfl) rfl dX4_wipe_9 ?_
  obtain ⟨z12, hz12, hf⟩ := gd_b hf
  refine g_callVv (wr := [oO aG 3 [.ref aT, .ref aP, .ref aW1, .ref aW2, .ref aAC, .int xG_actCount, .ref aKE, .int xG_heardMinutes, .int xG_silentMinutes, .int xG_toldCount, .long xG_seedNow]]) (wn := [oO aG 3 [.ref aT, .ref aP, .ref aW1, .ref aW2, .ref aAC, .int xG_actCount, .ref aKE, .int xG_heardMinutes, .int xG_silentMinutes, .int xG_toldCount, .long xG_seedNow], oO aT 1 [.ref aB, .int z12]]) hC [] (cX2_clear_m (kl X) (kD X) aT aB xT_length z12 hz12) gX4_wipe_X2_clear rfl kyX2_clear rfl rfl rfl (q0 := 0) rfl [1] [0] [] [0, 1] rfl rfl rfl rfl (by decide) rfl rfl rfl ⟨rfl, rfl⟩ ⟨Nat.le_of_ble_eq_true rfl, Nat.le_of_ble_eq_true rfl⟩ (Nat.le_of_ble_eq_true rfl) rfl dX4_wipe_12 ?_
  refine g_iload_n hC 0 dX4_wipe_15 rfl rfl ?_
  exact hQ (z4, z12) _ _ (gd_s hf) dX4_wipe_16
theorem kyX4_fault : yX4_fault.cls = RX4 ∧ yX4_fault.cls ≠ "java/lang/invoke/MethodHandle" ∧ yX4_fault.cls ≠ "java/lang/invoke/VarHandle" ∧ (parseMethodDescriptor yX4_fault.desc).map (fun d => d.parameters.length) = some 0 := by decide +kernel
set_option maxHeartbeats 4000000 in
set_option maxRecDepth 100000 in
theorem cX4_fault_m (l : Launch) (D : va_G) (aG aT aB aP aW1 aW2 aAC aKE : Nat) (iB : ClassId) (xG_actCount : Int32) (xG_heardMinutes : Int32) (xG_silentMinutes : Int32) (xG_toldCount : Int32) (xG_seedNow : Int64) (xT_length : Int32) (xB : Nat → Int32)  (z : Int32) (hf : fX4_fault xT_length xB = some z) : ∀ sz : Nat, Met l yX4_fault wsX4_fault ({ frames := 5, cells := 0, slots := 0, locals := 105 } : Room) (kPre D [(iB, .int)] [oO aG 3 [.ref aT, .ref aP, .ref aW1, .ref aW2, .ref aAC, .int xG_actCount, .ref aKE, .int xG_heardMinutes, .int xG_silentMinutes, .int xG_toldCount, .long xG_seedNow], oO aT 1 [.ref aB, .int xT_length], oI aB iB 32 xB] sz [.ref aG]) (kQi D [(iB, .int)] [oO aG 3 [.ref aT, .ref aP, .ref aW1, .ref aW2, .ref aAC, .int xG_actCount, .ref aKE, .int xG_heardMinutes, .int xG_silentMinutes, .int xG_toldCount, .long xG_seedNow], oO aT 1 [.ref aB, .int xT_length], oI aB iB 32 xB] sz [oO aG 3 [.ref aT, .ref aP, .ref aW1, .ref aW2, .ref aAC, .int xG_actCount, .ref aKE, .int xG_heardMinutes, .int xG_silentMinutes, .int xG_toldCount, .long xG_seedNow], oO aT 1 [.ref aB, .int xT_length], oI aB iB 32 xB] z) 0 0 (va_A [oO aG 3 [.ref aT, .ref aP, .ref aW1, .ref aW2, .ref aAC, .int xG_actCount, .ref aKE, .int xG_heardMinutes, .int xG_silentMinutes, .int xG_toldCount, .long xG_seedNow], oO aT 1 [.ref aB, .int xT_length], oI aB iB 32 xB] sz) := by
  refine kMet_i (own := RX4) z (fun u => u) (fun u => [oO aG 3 [.ref aT, .ref aP, .ref aW1, .ref aW2, .ref aAC, .int xG_actCount, .ref aKE, .int xG_heardMinutes, .int xG_silentMinutes, .int xG_toldCount, .long xG_seedNow], oO aT 1 [.ref aB, .int xT_length], oI aB iB 32 xB]) rfl (by decide) rfl ⟨rfl, rfl⟩ (Nat.le_of_ble_eq_true rfl) ?_
  intro X hXl hXD hC hQ
  subst hXl
  subst hXD
  change kG X 0 [(0, .ref aG)] [] [oO aG 3 [.ref aT, .ref aP, .ref aW1, .ref aW2, .ref aAC, .int xG_actCount, .ref aKE, .int xG_heardMinutes, .int xG_silentMinutes, .int xG_toldCount, .long xG_seedNow], oO aT 1 [.ref aB, .int xT_length], oI aB iB 32 xB]
  have hinX4 : ∀ w ∈ wsX40, w ∈ wsX4_fault := fun _ h => List.mem_cons_of_mem _ (List.mem_append_left _ (List.mem_append_right _ h))
  unfold fX4_fault at hf
  refine g_aload_n hC 0 dX4_fault_0 rfl rfl ?_
  refine g_get (C := RX4) (T := TX4) (N := 11) (v := .ref aT) hC hinX4 0 0 rfl rfl (by decide) (List.mem_of_getElem? (i := 1) rfl) rfl dX4_fault_1 ?_
  obtain ⟨z4, hz4, hf⟩ := gd_b hf
  refine g_callVi (wr := [oO aG 3 [.ref aT, .ref aP, .ref aW1, .ref aW2, .ref aAC, .int xG_actCount, .ref aKE, .int xG_heardMinutes, .int xG_silentMinutes, .int xG_toldCount, .long xG_seedNow]]) (wn := [oO aG 3 [.ref aT, .ref aP, .ref aW1, .ref aW2, .ref aAC, .int xG_actCount, .ref aKE, .int xG_heardMinutes, .int xG_silentMinutes, .int xG_toldCount, .long xG_seedNow], oO aT 1 [.ref aB, .int xT_length], oI aB iB 32 xB]) hC [] (cX2_firstFault_m (kl X) (kD X) aT aB iB xT_length xB z4 hz4) gX4_fault_X2_firstFault rfl kyX2_firstFault rfl rfl rfl (q0 := 0) rfl [1, 2] [0] [0] [0, 1, 2] rfl rfl rfl rfl (by decide) rfl rfl rfl ⟨rfl, rfl⟩ ⟨Nat.le_of_ble_eq_true rfl, Nat.le_of_ble_eq_true rfl⟩ (Nat.le_of_ble_eq_true rfl) rfl dX4_fault_4 ?_
  exact hQ (z4) _ _ (gd_s hf) dX4_fault_7
theorem kyX4_forgetKept : yX4_forgetKept.cls = RX4 ∧ yX4_forgetKept.cls ≠ "java/lang/invoke/MethodHandle" ∧ yX4_forgetKept.cls ≠ "java/lang/invoke/VarHandle" ∧ (parseMethodDescriptor yX4_forgetKept.desc).map (fun d => d.parameters.length) = some 0 := by decide +kernel
set_option maxHeartbeats 4000000 in
set_option maxRecDepth 100000 in
theorem cX4_forgetKept_m (l : Launch) (D : va_G) (aG aT aP aW1 aW2 aAC aKE : Nat) (iKE : ClassId) (xG_actCount : Int32) (xG_heardMinutes : Int32) (xG_silentMinutes : Int32) (xG_toldCount : Int32) (xG_seedNow : Int64) (xKE : Nat → Int64)  (z : (Nat → Int64)) (hf : fX4_forgetKept xKE = some z) : ∀ sz : Nat, Met l yX4_forgetKept wsX4_forgetKept ({ frames := 0, cells := 0, slots := 0, locals := 0 } : Room) (kPre D [(iKE, .long)] [oO aG 3 [.ref aT, .ref aP, .ref aW1, .ref aW2, .ref aAC, .int xG_actCount, .ref aKE, .int xG_heardMinutes, .int xG_silentMinutes, .int xG_toldCount, .long xG_seedNow], oJ aKE iKE 2 xKE] sz [.ref aG]) (kQv D [(iKE, .long)] [oO aG 3 [.ref aT, .ref aP, .ref aW1, .ref aW2, .ref aAC, .int xG_actCount, .ref aKE, .int xG_heardMinutes, .int xG_silentMinutes, .int xG_toldCount, .long xG_seedNow], oJ aKE iKE 2 xKE] sz [oO aG 3 [.ref aT, .ref aP, .ref aW1, .ref aW2, .ref aAC, .int xG_actCount, .ref aKE, .int xG_heardMinutes, .int xG_silentMinutes, .int xG_toldCount, .long xG_seedNow], oJ aKE iKE 2 z]) 0 0 (va_A [oO aG 3 [.ref aT, .ref aP, .ref aW1, .ref aW2, .ref aAC, .int xG_actCount, .ref aKE, .int xG_heardMinutes, .int xG_silentMinutes, .int xG_toldCount, .long xG_seedNow], oJ aKE iKE 2 xKE] sz) := by
  refine kMet_v (own := RX4) z (fun u => [oO aG 3 [.ref aT, .ref aP, .ref aW1, .ref aW2, .ref aAC, .int xG_actCount, .ref aKE, .int xG_heardMinutes, .int xG_silentMinutes, .int xG_toldCount, .long xG_seedNow], oJ aKE iKE 2 u]) rfl (by decide) rfl ⟨rfl, rfl⟩ (Nat.le_of_ble_eq_true rfl) ?_
  intro X hXl hXD hC hQ
  subst hXl
  subst hXD
  change kG X 0 [(0, .ref aG)] [] [oO aG 3 [.ref aT, .ref aP, .ref aW1, .ref aW2, .ref aAC, .int xG_actCount, .ref aKE, .int xG_heardMinutes, .int xG_silentMinutes, .int xG_toldCount, .long xG_seedNow], oJ aKE iKE 2 xKE]
  have hinX4 : ∀ w ∈ wsX40, w ∈ wsX4_forgetKept := fun _ h => List.mem_cons_of_mem _ (List.mem_append_right _ h)
  have t2 : ∀  (n : Nat) (j1 : Int32) (xKE : Nat → Int64), lp (fun _ _ => none) (fX4_forgetKept_b2_S ) n j1 xKE = some z → kG X 2 [(0, .ref aG), (1, .int j1)] [] [oO aG 3 [.ref aT, .ref aP, .ref aW1, .ref aW2, .ref aAC, .int xG_actCount, .ref aKE, .int xG_heardMinutes, .int xG_silentMinutes, .int xG_toldCount, .long xG_seedNow], oJ aKE iKE 2 xKE] := by
    intro  n
    induction n with
    | zero => intro j1 xKE hf; cases hf
    | succ n hk2 =>
      intro j1 xKE hf
      rw [lp_s] at hf
      revert hf hk2
      generalize lp (fun _ _ => none) (fX4_forgetKept_b2_S ) n = k2
      intro hk2 hf
      unfold fX4_forgetKept_b2_S at hf
      refine g_iload_n hC 1 dX4_forgetKept_2 rfl rfl ?_
      refine g_aload_n hC 0 dX4_forgetKept_3 rfl rfl ?_
      refine g_get (C := RX4) (T := TX4) (N := 11) (v := .ref aKE) hC hinX4 0 6 rfl rfl (by decide) (List.mem_of_getElem? (i := 1) rfl) rfl dX4_forgetKept_4 ?_
      refine g_alen (v := (2 : Int32)) hC 1 0 rfl rfl cn_2 dX4_forgetKept_7 ?_
      refine g_icmp_ge (tgt := 26) hC dX4_forgetKept_8 (by decide) (fun hc => ?_) (fun hc => ?_)
      · replace hf := gd_t hc hf
        exact hQ (xKE) _ _ (gd_s hf) dX4_forgetKept_26
      · replace hf := gd_f hc hf
        refine g_aload_n hC 0 dX4_forgetKept_11 rfl rfl ?_
        refine g_get (C := RX4) (T := TX4) (N := 11) (v := .ref aKE) hC hinX4 0 6 rfl rfl (by decide) (List.mem_of_getElem? (i := 1) rfl) rfl dX4_forgetKept_12 ?_
        refine g_iload_n hC 1 dX4_forgetKept_15 rfl rfl ?_
        refine g_ldc2 (v := (-1 : Int64)) hC dX4_forgetKept_16 (List.mem_of_getElem? (i := 2) rfl) ?_
        obtain ⟨hg, hf⟩ := gd_ga hf
        refine g_last (ws' := [oO aG 3 [.ref aT, .ref aP, .ref aW1, .ref aW2, .ref aAC, .int xG_actCount, .ref aKE, .int xG_heardMinutes, .int xG_silentMinutes, .int xG_toldCount, .long xG_seedNow], oJ aKE iKE 2 (vp_updL xKE j1.toNatClampNeg (-1 : Int64))]) hC 1 0 hg rfl rfl dX4_forgetKept_19 rfl ?_
        refine g_iinc (v := (j1 + (1 : Int32))) (lv' := [(1, .int (j1 + (1 : Int32))), (0, .ref aG)]) hC 1 dX4_forgetKept_20 rfl (ii _ ci_1) (by decide) rfl ?_
        refine g_goto (tgt := 2) hC dX4_forgetKept_23 (by decide) ?_
        refine g_lv (lv' := [(0, .ref aG), (1, .int (j1 + (1 : Int32)))]) [1, 0] rfl ?_
        exact hk2 (j1 + (1 : Int32)) (vp_updL xKE j1.toNatClampNeg (-1 : Int64)) hf
  unfold fX4_forgetKept at hf
  refine g_iconst (v := (0 : Int32)) hC dX4_forgetKept_0 ci_0 ?_
  refine g_istore_n (lv' := [(1, .int (0 : Int32)), (0, .ref aG)]) hC dX4_forgetKept_1 rfl (by decide) rfl ?_
  refine g_lv (lv' := [(0, .ref aG), (1, .int (0 : Int32))]) [1, 0] rfl ?_
  exact t2  fu (0 : Int32) xKE hf
theorem kyX4_gorge : yX4_gorge.cls = RX4 ∧ yX4_gorge.cls ≠ "java/lang/invoke/MethodHandle" ∧ yX4_gorge.cls ≠ "java/lang/invoke/VarHandle" ∧ (parseMethodDescriptor yX4_gorge.desc).map (fun d => d.parameters.length) = some 0 := by decide +kernel
set_option maxHeartbeats 4000000 in
set_option maxRecDepth 100000 in
theorem cX4_gorge_m (l : Launch) (D : va_G) (aG aT aB aP aW1 aW2 aAC aKE : Nat) (iB iKE : ClassId) (xG_actCount : Int32) (xG_heardMinutes : Int32) (xG_silentMinutes : Int32) (xG_toldCount : Int32) (xG_seedNow : Int64) (xT_length : Int32) (xB : Nat → Int32) (xP_walkers : Int32) (xP_light : Int32) (xP_water : Int32) (xP_nerves : Int32) (xP_kinds : Int32) (xW1_row : Int32) (xW1_quiets : Int32) (xW1_place : Int32) (xW1_turned : Int32) (xKE : Nat → Int64)  (z : Int32 × Int32 × Int32 × Int32 × Int32 × Int32 × Int32 × Int32 × Int32 × Int32 × (Nat → Int64)) (hf : fX4_gorge xG_actCount xT_length xB xP_walkers xP_light xP_water xP_nerves xP_kinds xW1_row xW1_quiets xW1_place xKE = some z) : ∀ sz : Nat, Met l yX4_gorge wsX4_gorge ({ frames := 5, cells := 0, slots := 0, locals := 105 } : Room) (kPre D [(iB, .int), (iKE, .long)] [oO aG 3 [.ref aT, .ref aP, .ref aW1, .ref aW2, .ref aAC, .int xG_actCount, .ref aKE, .int xG_heardMinutes, .int xG_silentMinutes, .int xG_toldCount, .long xG_seedNow], oO aT 1 [.ref aB, .int xT_length], oI aB iB 32 xB, oO aP 0 [.int xP_walkers, .int xP_light, .int xP_water, .int xP_nerves, .int xP_kinds], oO aW1 2 [.ref aP, .int xW1_row, .int xW1_quiets, .int xW1_place, .int xW1_turned], oJ aKE iKE 2 xKE] sz [.ref aG]) (kQi D [(iB, .int), (iKE, .long)] [oO aG 3 [.ref aT, .ref aP, .ref aW1, .ref aW2, .ref aAC, .int xG_actCount, .ref aKE, .int xG_heardMinutes, .int xG_silentMinutes, .int xG_toldCount, .long xG_seedNow], oO aT 1 [.ref aB, .int xT_length], oI aB iB 32 xB, oO aP 0 [.int xP_walkers, .int xP_light, .int xP_water, .int xP_nerves, .int xP_kinds], oO aW1 2 [.ref aP, .int xW1_row, .int xW1_quiets, .int xW1_place, .int xW1_turned], oJ aKE iKE 2 xKE] sz [oO aG 3 [.ref aT, .ref aP, .ref aW1, .ref aW2, .ref aAC, .int z.2.1, .ref aKE, .int xG_heardMinutes, .int xG_silentMinutes, .int xG_toldCount, .long xG_seedNow], oO aT 1 [.ref aB, .int xT_length], oI aB iB 32 xB, oO aP 0 [.int z.2.2.1, .int z.2.2.2.1, .int z.2.2.2.2.1, .int z.2.2.2.2.2.1, .int z.2.2.2.2.2.2.1], oO aW1 2 [.ref aP, .int z.2.2.2.2.2.2.2.1, .int z.2.2.2.2.2.2.2.2.1, .int z.2.2.2.2.2.2.2.2.2.1, .int xW1_turned], oJ aKE iKE 2 z.2.2.2.2.2.2.2.2.2.2] z.1) 0 0 (va_A [oO aG 3 [.ref aT, .ref aP, .ref aW1, .ref aW2, .ref aAC, .int xG_actCount, .ref aKE, .int xG_heardMinutes, .int xG_silentMinutes, .int xG_toldCount, .long xG_seedNow], oO aT 1 [.ref aB, .int xT_length], oI aB iB 32 xB, oO aP 0 [.int xP_walkers, .int xP_light, .int xP_water, .int xP_nerves, .int xP_kinds], oO aW1 2 [.ref aP, .int xW1_row, .int xW1_quiets, .int xW1_place, .int xW1_turned], oJ aKE iKE 2 xKE] sz) := by
  refine kMet_i (own := RX4) z (fun u => u.1) (fun u => [oO aG 3 [.ref aT, .ref aP, .ref aW1, .ref aW2, .ref aAC, .int u.2.1, .ref aKE, .int xG_heardMinutes, .int xG_silentMinutes, .int xG_toldCount, .long xG_seedNow], oO aT 1 [.ref aB, .int xT_length], oI aB iB 32 xB, oO aP 0 [.int u.2.2.1, .int u.2.2.2.1, .int u.2.2.2.2.1, .int u.2.2.2.2.2.1, .int u.2.2.2.2.2.2.1], oO aW1 2 [.ref aP, .int u.2.2.2.2.2.2.2.1, .int u.2.2.2.2.2.2.2.2.1, .int u.2.2.2.2.2.2.2.2.2.1, .int xW1_turned], oJ aKE iKE 2 u.2.2.2.2.2.2.2.2.2.2]) rfl (by decide) rfl ⟨rfl, rfl⟩ (Nat.le_of_ble_eq_true rfl) ?_
  intro X hXl hXD hC hQ
  subst hXl
  subst hXD
  change kG X 0 [(0, .ref aG)] [] [oO aG 3 [.ref aT, .ref aP, .ref aW1, .ref aW2, .ref aAC, .int xG_actCount, .ref aKE, .int xG_heardMinutes, .int xG_silentMinutes, .int xG_toldCount, .long xG_seedNow], oO aT 1 [.ref aB, .int xT_length], oI aB iB 32 xB, oO aP 0 [.int xP_walkers, .int xP_light, .int xP_water, .int xP_nerves, .int xP_kinds], oO aW1 2 [.ref aP, .int xW1_row, .int xW1_quiets, .int xW1_place, .int xW1_turned], oJ aKE iKE 2 xKE]
  have hinX4 : ∀ w ∈ wsX40, w ∈ wsX4_gorge := fun _ h => List.mem_cons_of_mem _ (List.mem_append_left _ (List.mem_append_left _ (List.mem_append_left _ (List.mem_append_right _ h))))
  unfold fX4_gorge at hf
  refine g_aload_n hC 0 dX4_gorge_0 rfl rfl ?_
  refine g_get (C := RX4) (T := TX4) (N := 11) (v := .ref aT) hC hinX4 0 0 rfl rfl (by decide) (List.mem_of_getElem? (i := 1) rfl) rfl dX4_gorge_1 ?_
  obtain ⟨z4, hz4, hf⟩ := gd_b hf
  refine g_callVi (wr := [oO aG 3 [.ref aT, .ref aP, .ref aW1, .ref aW2, .ref aAC, .int xG_actCount, .ref aKE, .int xG_heardMinutes, .int xG_silentMinutes, .int xG_toldCount, .long xG_seedNow], oO aP 0 [.int xP_walkers, .int xP_light, .int xP_water, .int xP_nerves, .int xP_kinds], oO aW1 2 [.ref aP, .int xW1_row, .int xW1_quiets, .int xW1_place, .int xW1_turned], oJ aKE iKE 2 xKE]) (wn := [oO aG 3 [.ref aT, .ref aP, .ref aW1, .ref aW2, .ref aAC, .int xG_actCount, .ref aKE, .int xG_heardMinutes, .int xG_silentMinutes, .int xG_toldCount, .long xG_seedNow], oO aT 1 [.ref aB, .int xT_length], oI aB iB 32 xB, oO aP 0 [.int xP_walkers, .int xP_light, .int xP_water, .int xP_nerves, .int xP_kinds], oO aW1 2 [.ref aP, .int xW1_row, .int xW1_quiets, .int xW1_place, .int xW1_turned], oJ aKE iKE 2 xKE]) hC [] (cX2_firstFault_m (kl X) (kD X) aT aB iB xT_length xB z4 hz4) gX4_gorge_X2_firstFault rfl kyX2_firstFault rfl rfl rfl (q0 := 0) rfl [1, 2] [0, 3, 4, 5] [0] [0, 4, 5, 1, 2, 3] rfl rfl rfl rfl (by decide) rfl rfl rfl ⟨rfl, rfl⟩ ⟨Nat.le_of_ble_eq_true rfl, Nat.le_of_ble_eq_true rfl⟩ (Nat.le_of_ble_eq_true rfl) rfl dX4_gorge_4 ?_
  refine g_bipush (v := (-9 : Int32)) hC dX4_gorge_7 cb_m9 ?_
  refine g_icmp_eq (tgt := 15) hC dX4_gorge_9 (by decide) (fun hc => ?_) (fun hc => ?_)
  · replace hf := gd_t hc hf
    refine g_aload_n hC 0 dX4_gorge_15 rfl rfl ?_
    refine g_get (C := RX4) (T := TX4) (N := 11) (v := .ref aP) hC hinX4 0 1 rfl rfl (by decide) (List.mem_of_getElem? (i := 2) rfl) rfl dX4_gorge_16 ?_
    refine g_aload_n hC 0 dX4_gorge_19 rfl rfl ?_
    refine g_get (C := RX4) (T := TX4) (N := 11) (v := .ref aT) hC hinX4 0 0 rfl rfl (by decide) (List.mem_of_getElem? (i := 1) rfl) rfl dX4_gorge_20 ?_
    obtain ⟨z23, hz23, hf⟩ := gd_b hf
    refine g_callVv (wr := [oO aG 3 [.ref aT, .ref aP, .ref aW1, .ref aW2, .ref aAC, .int xG_actCount, .ref aKE, .int xG_heardMinutes, .int xG_silentMinutes, .int xG_toldCount, .long xG_seedNow], oO aW1 2 [.ref aP, .int xW1_row, .int xW1_quiets, .int xW1_place, .int xW1_turned], oJ aKE iKE 2 xKE]) (wn := [oO aG 3 [.ref aT, .ref aP, .ref aW1, .ref aW2, .ref aAC, .int xG_actCount, .ref aKE, .int xG_heardMinutes, .int xG_silentMinutes, .int xG_toldCount, .long xG_seedNow], oO aT 1 [.ref aB, .int xT_length], oI aB iB 32 xB, oO aP 0 [.int z23.1, .int z23.2.1, .int z23.2.2.1, .int z23.2.2.2.1, .int z23.2.2.2.2], oO aW1 2 [.ref aP, .int xW1_row, .int xW1_quiets, .int xW1_place, .int xW1_turned], oJ aKE iKE 2 xKE]) hC [.ref aT] (cX1_read_m (kl X) (kD X) aT aB aP iB xT_length xB xP_walkers xP_light xP_water xP_nerves xP_kinds z23 hz23) gX4_gorge_X1_read rfl kyX1_read rfl rfl rfl (q0 := 2) rfl [1, 2, 3] [0, 4, 5] [0] [0, 3, 4, 5, 1, 2] rfl rfl rfl rfl (by decide) rfl rfl rfl ⟨rfl, rfl⟩ ⟨Nat.le_of_ble_eq_true rfl, Nat.le_of_ble_eq_true rfl⟩ (Nat.le_of_ble_eq_true rfl) rfl dX4_gorge_23 ?_
    refine g_aload_n hC 0 dX4_gorge_26 rfl rfl ?_
    refine g_get (C := RX4) (T := TX4) (N := 11) (v := .ref aW1) hC hinX4 0 2 rfl rfl (by decide) (List.mem_of_getElem? (i := 3) rfl) rfl dX4_gorge_27 ?_
    obtain ⟨z30, hz30, hf⟩ := gd_b hf
    refine g_callVv (wr := [oO aG 3 [.ref aT, .ref aP, .ref aW1, .ref aW2, .ref aAC, .int xG_actCount, .ref aKE, .int xG_heardMinutes, .int xG_silentMinutes, .int xG_toldCount, .long xG_seedNow], oO aT 1 [.ref aB, .int xT_length], oI aB iB 32 xB, oJ aKE iKE 2 xKE]) (wn := [oO aG 3 [.ref aT, .ref aP, .ref aW1, .ref aW2, .ref aAC, .int xG_actCount, .ref aKE, .int xG_heardMinutes, .int xG_silentMinutes, .int xG_toldCount, .long xG_seedNow], oO aT 1 [.ref aB, .int xT_length], oI aB iB 32 xB, oO aP 0 [.int z23.1, .int z23.2.1, .int z23.2.2.1, .int z23.2.2.2.1, .int z23.2.2.2.2], oO aW1 2 [.ref aP, .int z30.1, .int z30.2.1, .int z30.2.2, .int xW1_turned], oJ aKE iKE 2 xKE]) hC [] (cX3_start_m (kl X) (kD X) aP aW1 z23.1 z23.2.1 z23.2.2.1 z23.2.2.2.1 z23.2.2.2.2 xW1_row xW1_quiets xW1_place xW1_turned z30 hz30) gX4_gorge_X3_start rfl kyX3_start rfl rfl rfl (q0 := 1) rfl [3, 4] [0, 1, 2, 5] [] [0, 1, 2, 4, 5, 3] rfl rfl rfl rfl (by decide) rfl rfl rfl ⟨rfl, rfl⟩ ⟨Nat.le_of_ble_eq_true rfl, Nat.le_of_ble_eq_true rfl⟩ (Nat.le_of_ble_eq_true rfl) rfl dX4_gorge_30 ?_
    refine g_aload_n hC 0 dX4_gorge_33 rfl rfl ?_
    refine g_iconst (v := (0 : Int32)) hC dX4_gorge_34 ci_0 ?_
    refine g_put (C := RX4) (T := TX4) (N := 11) (ty := .int) (ws' := [oO aG 3 [.ref aT, .ref aP, .ref aW1, .ref aW2, .ref aAC, .int (0 : Int32), .ref aKE, .int xG_heardMinutes, .int xG_silentMinutes, .int xG_toldCount, .long xG_seedNow], oO aT 1 [.ref aB, .int xT_length], oI aB iB 32 xB, oO aP 0 [.int z23.1, .int z23.2.1, .int z23.2.2.1, .int z23.2.2.2.1, .int z23.2.2.2.2], oO aW1 2 [.ref aP, .int z30.1, .int z30.2.1, .int z30.2.2, .int xW1_turned], oJ aKE iKE 2 xKE]) hC tyX4_ok nmX4 hinX4 0 5 rfl rfl (by decide) (List.mem_of_getElem? (i := 4) rfl) rfl rfl rfl rfl (Nat.le_of_ble_eq_true rfl) dX4_gorge_35 rfl ?_
    refine g_aload_n hC 0 dX4_gorge_38 rfl rfl ?_
    obtain ⟨z39, hz39, hf⟩ := gd_b hf
    refine g_callVv (wr := [oO aT 1 [.ref aB, .int xT_length], oI aB iB 32 xB, oO aP 0 [.int z23.1, .int z23.2.1, .int z23.2.2.1, .int z23.2.2.2.1, .int z23.2.2.2.2], oO aW1 2 [.ref aP, .int z30.1, .int z30.2.1, .int z30.2.2, .int xW1_turned]]) (wn := [oO aG 3 [.ref aT, .ref aP, .ref aW1, .ref aW2, .ref aAC, .int (0 : Int32), .ref aKE, .int xG_heardMinutes, .int xG_silentMinutes, .int xG_toldCount, .long xG_seedNow], oO aT 1 [.ref aB, .int xT_length], oI aB iB 32 xB, oO aP 0 [.int z23.1, .int z23.2.1, .int z23.2.2.1, .int z23.2.2.2.1, .int z23.2.2.2.2], oO aW1 2 [.ref aP, .int z30.1, .int z30.2.1, .int z30.2.2, .int xW1_turned], oJ aKE iKE 2 z39]) hC [] (cX4_forgetKept_m (kl X) (kD X) aG aT aP aW1 aW2 aAC aKE iKE (0 : Int32) xG_heardMinutes xG_silentMinutes xG_toldCount xG_seedNow xKE z39 hz39) gX4_gorge_X4_forgetKept rfl kyX4_forgetKept rfl rfl rfl (q0 := 0) rfl [0, 5] [1, 2, 3, 4] [1] [4, 0, 1, 2, 3, 5] rfl rfl rfl rfl (by decide) rfl rfl rfl ⟨rfl, rfl⟩ ⟨Nat.le_of_ble_eq_true rfl, Nat.le_of_ble_eq_true rfl⟩ (Nat.le_of_ble_eq_true rfl) rfl dX4_gorge_39 ?_
    refine g_aload_n hC 0 dX4_gorge_42 rfl rfl ?_
    refine g_get (C := RX4) (T := TX4) (N := 11) (v := .ref aP) hC hinX4 0 1 rfl rfl (by decide) (List.mem_of_getElem? (i := 2) rfl) rfl dX4_gorge_43 ?_
    obtain ⟨z46, hz46, hf⟩ := gd_b hf
    refine g_callVi (wr := [oO aG 3 [.ref aT, .ref aP, .ref aW1, .ref aW2, .ref aAC, .int (0 : Int32), .ref aKE, .int xG_heardMinutes, .int xG_silentMinutes, .int xG_toldCount, .long xG_seedNow], oO aT 1 [.ref aB, .int xT_length], oI aB iB 32 xB, oO aW1 2 [.ref aP, .int z30.1, .int z30.2.1, .int z30.2.2, .int xW1_turned], oJ aKE iKE 2 z39]) (wn := [oO aG 3 [.ref aT, .ref aP, .ref aW1, .ref aW2, .ref aAC, .int (0 : Int32), .ref aKE, .int xG_heardMinutes, .int xG_silentMinutes, .int xG_toldCount, .long xG_seedNow], oO aT 1 [.ref aB, .int xT_length], oI aB iB 32 xB, oO aP 0 [.int z23.1, .int z23.2.1, .int z23.2.2.1, .int z23.2.2.2.1, .int z23.2.2.2.2], oO aW1 2 [.ref aP, .int z30.1, .int z30.2.1, .int z30.2.2, .int xW1_turned], oJ aKE iKE 2 z39]) hC [] (cX1_walkers_m (kl X) (kD X) aP z23.1 z23.2.1 z23.2.2.1 z23.2.2.2.1 z23.2.2.2.2 z46 hz46) gX4_gorge_X1_walkers rfl kyX1_walkers rfl rfl rfl (q0 := 0) rfl [3] [0, 1, 2, 4, 5] [] [0, 1, 2, 5, 3, 4] rfl rfl rfl rfl (by decide) rfl rfl rfl ⟨rfl, rfl⟩ ⟨Nat.le_of_ble_eq_true rfl, Nat.le_of_ble_eq_true rfl⟩ (Nat.le_of_ble_eq_true rfl) rfl dX4_gorge_46 ?_
    exact hQ (z46, (0 : Int32), z23.1, z23.2.1, z23.2.2.1, z23.2.2.2.1, z23.2.2.2.2, z30.1, z30.2.1, z30.2.2, z39) _ _ (gd_s hf) dX4_gorge_49
  · replace hf := gd_f hc hf
    refine g_bipush (v := (-3 : Int32)) hC dX4_gorge_12 cb_m3 ?_
    exact hQ ((-3 : Int32), xG_actCount, xP_walkers, xP_light, xP_water, xP_nerves, xP_kinds, xW1_row, xW1_quiets, xW1_place, xKE) _ _ (gd_s hf) dX4_gorge_14
theorem kyX4_about : yX4_about.cls = RX4 ∧ yX4_about.cls ≠ "java/lang/invoke/MethodHandle" ∧ yX4_about.cls ≠ "java/lang/invoke/VarHandle" ∧ (parseMethodDescriptor yX4_about.desc).map (fun d => d.parameters.length) = some 1 := by decide +kernel
set_option maxHeartbeats 4000000 in
set_option maxRecDepth 100000 in
theorem cX4_about_m (l : Launch) (D : va_G) (aG aT aB aP aW1 aW2 aAC aKE : Nat) (xG_actCount : Int32) (xG_heardMinutes : Int32) (xG_silentMinutes : Int32) (xG_toldCount : Int32) (xG_seedNow : Int64) (xT_length : Int32) (xP_walkers : Int32) (xP_light : Int32) (xP_water : Int32) (xP_nerves : Int32) (xP_kinds : Int32) (xW1_row : Int32) (xW1_quiets : Int32) (xW1_place : Int32) (xW1_turned : Int32) (j1 : Int32) (z : Int32) (hf : fX4_about j1 xG_actCount xG_toldCount xT_length xP_walkers xP_light xP_water xW1_row xW1_place = some z) : ∀ sz : Nat, Met l yX4_about wsX4_about ({ frames := 4, cells := 0, slots := 0, locals := 84 } : Room) (kPre D [] [oO aG 3 [.ref aT, .ref aP, .ref aW1, .ref aW2, .ref aAC, .int xG_actCount, .ref aKE, .int xG_heardMinutes, .int xG_silentMinutes, .int xG_toldCount, .long xG_seedNow], oO aT 1 [.ref aB, .int xT_length], oO aP 0 [.int xP_walkers, .int xP_light, .int xP_water, .int xP_nerves, .int xP_kinds], oO aW1 2 [.ref aP, .int xW1_row, .int xW1_quiets, .int xW1_place, .int xW1_turned]] sz [.ref aG, .int j1]) (kQi D [] [oO aG 3 [.ref aT, .ref aP, .ref aW1, .ref aW2, .ref aAC, .int xG_actCount, .ref aKE, .int xG_heardMinutes, .int xG_silentMinutes, .int xG_toldCount, .long xG_seedNow], oO aT 1 [.ref aB, .int xT_length], oO aP 0 [.int xP_walkers, .int xP_light, .int xP_water, .int xP_nerves, .int xP_kinds], oO aW1 2 [.ref aP, .int xW1_row, .int xW1_quiets, .int xW1_place, .int xW1_turned]] sz [oO aG 3 [.ref aT, .ref aP, .ref aW1, .ref aW2, .ref aAC, .int xG_actCount, .ref aKE, .int xG_heardMinutes, .int xG_silentMinutes, .int xG_toldCount, .long xG_seedNow], oO aT 1 [.ref aB, .int xT_length], oO aP 0 [.int xP_walkers, .int xP_light, .int xP_water, .int xP_nerves, .int xP_kinds], oO aW1 2 [.ref aP, .int xW1_row, .int xW1_quiets, .int xW1_place, .int xW1_turned]] z) 0 0 (va_A [oO aG 3 [.ref aT, .ref aP, .ref aW1, .ref aW2, .ref aAC, .int xG_actCount, .ref aKE, .int xG_heardMinutes, .int xG_silentMinutes, .int xG_toldCount, .long xG_seedNow], oO aT 1 [.ref aB, .int xT_length], oO aP 0 [.int xP_walkers, .int xP_light, .int xP_water, .int xP_nerves, .int xP_kinds], oO aW1 2 [.ref aP, .int xW1_row, .int xW1_quiets, .int xW1_place, .int xW1_turned]] sz) := by
  refine kMet_i (own := RX4) z (fun u => u) (fun u => [oO aG 3 [.ref aT, .ref aP, .ref aW1, .ref aW2, .ref aAC, .int xG_actCount, .ref aKE, .int xG_heardMinutes, .int xG_silentMinutes, .int xG_toldCount, .long xG_seedNow], oO aT 1 [.ref aB, .int xT_length], oO aP 0 [.int xP_walkers, .int xP_light, .int xP_water, .int xP_nerves, .int xP_kinds], oO aW1 2 [.ref aP, .int xW1_row, .int xW1_quiets, .int xW1_place, .int xW1_turned]]) rfl (by decide) rfl ⟨rfl, rfl⟩ (Nat.le_of_ble_eq_true rfl) ?_
  intro X hXl hXD hC hQ
  subst hXl
  subst hXD
  change kG X 0 [(0, .ref aG), (1, .int j1)] [] [oO aG 3 [.ref aT, .ref aP, .ref aW1, .ref aW2, .ref aAC, .int xG_actCount, .ref aKE, .int xG_heardMinutes, .int xG_silentMinutes, .int xG_toldCount, .long xG_seedNow], oO aT 1 [.ref aB, .int xT_length], oO aP 0 [.int xP_walkers, .int xP_light, .int xP_water, .int xP_nerves, .int xP_kinds], oO aW1 2 [.ref aP, .int xW1_row, .int xW1_quiets, .int xW1_place, .int xW1_turned]]
  have hinX4 : ∀ w ∈ wsX40, w ∈ wsX4_about := fun _ h => List.mem_cons_of_mem _ (List.mem_append_left _ (List.mem_append_left _ (List.mem_append_left _ (List.mem_append_right _ h))))
  unfold fX4_about at hf
  refine g_iload_n hC 1 dX4_about_0 rfl rfl ?_
  by_cases c0 : j1 = (0 : Int32)
  · replace hf := gd_t c0 hf
    refine g_tableIn (tgt := 60) hC c0 dX4_about_1 (by decide) (by decide) rfl (by decide) ?_
    refine g_aload_n hC 0 dX4_about_60 rfl rfl ?_
    refine g_get (C := RX4) (T := TX4) (N := 11) (v := .ref aP) hC hinX4 0 1 rfl rfl (by decide) (List.mem_of_getElem? (i := 1) rfl) rfl dX4_about_61 ?_
    obtain ⟨z64, hz64, hf⟩ := gd_b hf
    refine g_callVi (wr := [oO aG 3 [.ref aT, .ref aP, .ref aW1, .ref aW2, .ref aAC, .int xG_actCount, .ref aKE, .int xG_heardMinutes, .int xG_silentMinutes, .int xG_toldCount, .long xG_seedNow], oO aT 1 [.ref aB, .int xT_length], oO aW1 2 [.ref aP, .int xW1_row, .int xW1_quiets, .int xW1_place, .int xW1_turned]]) (wn := [oO aG 3 [.ref aT, .ref aP, .ref aW1, .ref aW2, .ref aAC, .int xG_actCount, .ref aKE, .int xG_heardMinutes, .int xG_silentMinutes, .int xG_toldCount, .long xG_seedNow], oO aT 1 [.ref aB, .int xT_length], oO aP 0 [.int xP_walkers, .int xP_light, .int xP_water, .int xP_nerves, .int xP_kinds], oO aW1 2 [.ref aP, .int xW1_row, .int xW1_quiets, .int xW1_place, .int xW1_turned]]) hC [] (cX1_walkers_m (kl X) (kD X) aP xP_walkers xP_light xP_water xP_nerves xP_kinds z64 hz64) gX4_about_X1_walkers rfl kyX1_walkers rfl rfl rfl (q0 := 0) rfl [2] [0, 1, 3] [] [0, 1, 3, 2] rfl rfl rfl rfl (by decide) rfl rfl rfl ⟨rfl, rfl⟩ ⟨Nat.le_of_ble_eq_true rfl, Nat.le_of_ble_eq_true rfl⟩ (Nat.le_of_ble_eq_true rfl) rfl dX4_about_64 ?_
    exact hQ (z64) _ _ (gd_s hf) dX4_about_67
  replace hf := gd_f c0 hf
  by_cases c1 : j1 = (1 : Int32)
  · replace hf := gd_t c1 hf
    refine g_tableIn (tgt := 68) hC c1 dX4_about_1 (by decide) (by decide) rfl (by decide) ?_
    refine g_aload_n hC 0 dX4_about_68 rfl rfl ?_
    refine g_get (C := RX4) (T := TX4) (N := 11) (v := .ref aP) hC hinX4 0 1 rfl rfl (by decide) (List.mem_of_getElem? (i := 1) rfl) rfl dX4_about_69 ?_
    obtain ⟨z72, hz72, hf⟩ := gd_b hf
    refine g_callVi (wr := [oO aG 3 [.ref aT, .ref aP, .ref aW1, .ref aW2, .ref aAC, .int xG_actCount, .ref aKE, .int xG_heardMinutes, .int xG_silentMinutes, .int xG_toldCount, .long xG_seedNow], oO aT 1 [.ref aB, .int xT_length], oO aW1 2 [.ref aP, .int xW1_row, .int xW1_quiets, .int xW1_place, .int xW1_turned]]) (wn := [oO aG 3 [.ref aT, .ref aP, .ref aW1, .ref aW2, .ref aAC, .int xG_actCount, .ref aKE, .int xG_heardMinutes, .int xG_silentMinutes, .int xG_toldCount, .long xG_seedNow], oO aT 1 [.ref aB, .int xT_length], oO aP 0 [.int xP_walkers, .int xP_light, .int xP_water, .int xP_nerves, .int xP_kinds], oO aW1 2 [.ref aP, .int xW1_row, .int xW1_quiets, .int xW1_place, .int xW1_turned]]) hC [] (cX1_light_m (kl X) (kD X) aP xP_walkers xP_light xP_water xP_nerves xP_kinds z72 hz72) gX4_about_X1_light rfl kyX1_light rfl rfl rfl (q0 := 0) rfl [2] [0, 1, 3] [] [0, 1, 3, 2] rfl rfl rfl rfl (by decide) rfl rfl rfl ⟨rfl, rfl⟩ ⟨Nat.le_of_ble_eq_true rfl, Nat.le_of_ble_eq_true rfl⟩ (Nat.le_of_ble_eq_true rfl) rfl dX4_about_72 ?_
    exact hQ (z72) _ _ (gd_s hf) dX4_about_75
  replace hf := gd_f c1 hf
  by_cases c2 : j1 = (2 : Int32)
  · replace hf := gd_t c2 hf
    refine g_tableIn (tgt := 76) hC c2 dX4_about_1 (by decide) (by decide) rfl (by decide) ?_
    refine g_aload_n hC 0 dX4_about_76 rfl rfl ?_
    refine g_get (C := RX4) (T := TX4) (N := 11) (v := .ref aP) hC hinX4 0 1 rfl rfl (by decide) (List.mem_of_getElem? (i := 1) rfl) rfl dX4_about_77 ?_
    obtain ⟨z80, hz80, hf⟩ := gd_b hf
    refine g_callVi (wr := [oO aG 3 [.ref aT, .ref aP, .ref aW1, .ref aW2, .ref aAC, .int xG_actCount, .ref aKE, .int xG_heardMinutes, .int xG_silentMinutes, .int xG_toldCount, .long xG_seedNow], oO aT 1 [.ref aB, .int xT_length], oO aW1 2 [.ref aP, .int xW1_row, .int xW1_quiets, .int xW1_place, .int xW1_turned]]) (wn := [oO aG 3 [.ref aT, .ref aP, .ref aW1, .ref aW2, .ref aAC, .int xG_actCount, .ref aKE, .int xG_heardMinutes, .int xG_silentMinutes, .int xG_toldCount, .long xG_seedNow], oO aT 1 [.ref aB, .int xT_length], oO aP 0 [.int xP_walkers, .int xP_light, .int xP_water, .int xP_nerves, .int xP_kinds], oO aW1 2 [.ref aP, .int xW1_row, .int xW1_quiets, .int xW1_place, .int xW1_turned]]) hC [] (cX1_water_m (kl X) (kD X) aP xP_walkers xP_light xP_water xP_nerves xP_kinds z80 hz80) gX4_about_X1_water rfl kyX1_water rfl rfl rfl (q0 := 0) rfl [2] [0, 1, 3] [] [0, 1, 3, 2] rfl rfl rfl rfl (by decide) rfl rfl rfl ⟨rfl, rfl⟩ ⟨Nat.le_of_ble_eq_true rfl, Nat.le_of_ble_eq_true rfl⟩ (Nat.le_of_ble_eq_true rfl) rfl dX4_about_80 ?_
    exact hQ (z80) _ _ (gd_s hf) dX4_about_83
  replace hf := gd_f c2 hf
  by_cases c3 : j1 = (3 : Int32)
  · replace hf := gd_t c3 hf
    refine g_tableIn (tgt := 84) hC c3 dX4_about_1 (by decide) (by decide) rfl (by decide) ?_
    refine g_aload_n hC 0 dX4_about_84 rfl rfl ?_
    refine g_get (C := RX4) (T := TX4) (N := 11) (v := .ref aW1) hC hinX4 0 2 rfl rfl (by decide) (List.mem_of_getElem? (i := 2) rfl) rfl dX4_about_85 ?_
    obtain ⟨z88, hz88, hf⟩ := gd_b hf
    refine g_callVi (wr := [oO aG 3 [.ref aT, .ref aP, .ref aW1, .ref aW2, .ref aAC, .int xG_actCount, .ref aKE, .int xG_heardMinutes, .int xG_silentMinutes, .int xG_toldCount, .long xG_seedNow], oO aT 1 [.ref aB, .int xT_length], oO aP 0 [.int xP_walkers, .int xP_light, .int xP_water, .int xP_nerves, .int xP_kinds]]) (wn := [oO aG 3 [.ref aT, .ref aP, .ref aW1, .ref aW2, .ref aAC, .int xG_actCount, .ref aKE, .int xG_heardMinutes, .int xG_silentMinutes, .int xG_toldCount, .long xG_seedNow], oO aT 1 [.ref aB, .int xT_length], oO aP 0 [.int xP_walkers, .int xP_light, .int xP_water, .int xP_nerves, .int xP_kinds], oO aW1 2 [.ref aP, .int xW1_row, .int xW1_quiets, .int xW1_place, .int xW1_turned]]) hC [] (cX3_place_m (kl X) (kD X) aP aW1 xW1_row xW1_quiets xW1_place xW1_turned z88 hz88) gX4_about_X3_place rfl kyX3_place rfl rfl rfl (q0 := 0) rfl [3] [0, 1, 2] [] [0, 1, 2, 3] rfl rfl rfl rfl (by decide) rfl rfl rfl ⟨rfl, rfl⟩ ⟨Nat.le_of_ble_eq_true rfl, Nat.le_of_ble_eq_true rfl⟩ (Nat.le_of_ble_eq_true rfl) rfl dX4_about_88 ?_
    exact hQ (z88) _ _ (gd_s hf) dX4_about_91
  replace hf := gd_f c3 hf
  by_cases c4 : j1 = (4 : Int32)
  · replace hf := gd_t c4 hf
    refine g_tableIn (tgt := 92) hC c4 dX4_about_1 (by decide) (by decide) rfl (by decide) ?_
    refine g_aload_n hC 0 dX4_about_92 rfl rfl ?_
    refine g_get (C := RX4) (T := TX4) (N := 11) (v := .ref aW1) hC hinX4 0 2 rfl rfl (by decide) (List.mem_of_getElem? (i := 2) rfl) rfl dX4_about_93 ?_
    obtain ⟨z96, hz96, hf⟩ := gd_b hf
    refine g_callVi (wr := [oO aG 3 [.ref aT, .ref aP, .ref aW1, .ref aW2, .ref aAC, .int xG_actCount, .ref aKE, .int xG_heardMinutes, .int xG_silentMinutes, .int xG_toldCount, .long xG_seedNow], oO aT 1 [.ref aB, .int xT_length], oO aP 0 [.int xP_walkers, .int xP_light, .int xP_water, .int xP_nerves, .int xP_kinds]]) (wn := [oO aG 3 [.ref aT, .ref aP, .ref aW1, .ref aW2, .ref aAC, .int xG_actCount, .ref aKE, .int xG_heardMinutes, .int xG_silentMinutes, .int xG_toldCount, .long xG_seedNow], oO aT 1 [.ref aB, .int xT_length], oO aP 0 [.int xP_walkers, .int xP_light, .int xP_water, .int xP_nerves, .int xP_kinds], oO aW1 2 [.ref aP, .int xW1_row, .int xW1_quiets, .int xW1_place, .int xW1_turned]]) hC [] (cX3_members_m (kl X) (kD X) aP aW1 xW1_row xW1_quiets xW1_place xW1_turned z96 hz96) gX4_about_X3_members rfl kyX3_members rfl rfl rfl (q0 := 0) rfl [3] [0, 1, 2] [] [0, 1, 2, 3] rfl rfl rfl rfl (by decide) rfl rfl rfl ⟨rfl, rfl⟩ ⟨Nat.le_of_ble_eq_true rfl, Nat.le_of_ble_eq_true rfl⟩ (Nat.le_of_ble_eq_true rfl) rfl dX4_about_96 ?_
    exact hQ (z96) _ _ (gd_s hf) dX4_about_99
  replace hf := gd_f c4 hf
  by_cases c5 : j1 = (5 : Int32)
  · replace hf := gd_t c5 hf
    refine g_tableIn (tgt := 100) hC c5 dX4_about_1 (by decide) (by decide) rfl (by decide) ?_
    refine g_aload_n hC 0 dX4_about_100 rfl rfl ?_
    refine g_get (C := RX4) (T := TX4) (N := 11) (v := .ref aP) hC hinX4 0 1 rfl rfl (by decide) (List.mem_of_getElem? (i := 1) rfl) rfl dX4_about_101 ?_
    obtain ⟨z104, hz104, hf⟩ := gd_b hf
    refine g_callVi (wr := [oO aG 3 [.ref aT, .ref aP, .ref aW1, .ref aW2, .ref aAC, .int xG_actCount, .ref aKE, .int xG_heardMinutes, .int xG_silentMinutes, .int xG_toldCount, .long xG_seedNow], oO aT 1 [.ref aB, .int xT_length], oO aW1 2 [.ref aP, .int xW1_row, .int xW1_quiets, .int xW1_place, .int xW1_turned]]) (wn := [oO aG 3 [.ref aT, .ref aP, .ref aW1, .ref aW2, .ref aAC, .int xG_actCount, .ref aKE, .int xG_heardMinutes, .int xG_silentMinutes, .int xG_toldCount, .long xG_seedNow], oO aT 1 [.ref aB, .int xT_length], oO aP 0 [.int xP_walkers, .int xP_light, .int xP_water, .int xP_nerves, .int xP_kinds], oO aW1 2 [.ref aP, .int xW1_row, .int xW1_quiets, .int xW1_place, .int xW1_turned]]) hC [] (cX1_everybody_m (kl X) (kD X) aP xP_walkers xP_light xP_water xP_nerves xP_kinds z104 hz104) gX4_about_X1_everybody rfl kyX1_everybody rfl rfl rfl (q0 := 0) rfl [2] [0, 1, 3] [] [0, 1, 3, 2] rfl rfl rfl rfl (by decide) rfl rfl rfl ⟨rfl, rfl⟩ ⟨Nat.le_of_ble_eq_true rfl, Nat.le_of_ble_eq_true rfl⟩ (Nat.le_of_ble_eq_true rfl) rfl dX4_about_104 ?_
    refine g_aload_n hC 0 dX4_about_107 rfl rfl ?_
    refine g_get (C := RX4) (T := TX4) (N := 11) (v := .ref aW1) hC hinX4 0 2 rfl rfl (by decide) (List.mem_of_getElem? (i := 2) rfl) rfl dX4_about_108 ?_
    obtain ⟨z111, hz111, hf⟩ := gd_b hf
    refine g_callVi (wr := [oO aG 3 [.ref aT, .ref aP, .ref aW1, .ref aW2, .ref aAC, .int xG_actCount, .ref aKE, .int xG_heardMinutes, .int xG_silentMinutes, .int xG_toldCount, .long xG_seedNow], oO aT 1 [.ref aB, .int xT_length], oO aP 0 [.int xP_walkers, .int xP_light, .int xP_water, .int xP_nerves, .int xP_kinds]]) (wn := [oO aG 3 [.ref aT, .ref aP, .ref aW1, .ref aW2, .ref aAC, .int xG_actCount, .ref aKE, .int xG_heardMinutes, .int xG_silentMinutes, .int xG_toldCount, .long xG_seedNow], oO aT 1 [.ref aB, .int xT_length], oO aP 0 [.int xP_walkers, .int xP_light, .int xP_water, .int xP_nerves, .int xP_kinds], oO aW1 2 [.ref aP, .int xW1_row, .int xW1_quiets, .int xW1_place, .int xW1_turned]]) hC [] (cX3_members_m (kl X) (kD X) aP aW1 xW1_row xW1_quiets xW1_place xW1_turned z111 hz111) gX4_about_X3_members rfl kyX3_members rfl rfl rfl (q0 := 0) rfl [3] [0, 1, 2] [] [0, 1, 2, 3] rfl rfl rfl rfl (by decide) rfl rfl rfl ⟨rfl, rfl⟩ ⟨Nat.le_of_ble_eq_true rfl, Nat.le_of_ble_eq_true rfl⟩ (Nat.le_of_ble_eq_true rfl) rfl dX4_about_111 ?_
    refine g_iconst (v := (-1 : Int32)) hC dX4_about_114 ci_m1 ?_
    refine g_ixor hC dX4_about_115 ?_
    refine g_iand hC dX4_about_116 ?_
    exact hQ ((z104 &&& (z111 ^^^ (-1 : Int32)))) _ _ (gd_s hf) dX4_about_117
  replace hf := gd_f c5 hf
  by_cases c6 : j1 = (6 : Int32)
  · replace hf := gd_t c6 hf
    refine g_tableIn (tgt := 118) hC c6 dX4_about_1 (by decide) (by decide) rfl (by decide) ?_
    refine g_aload_n hC 0 dX4_about_118 rfl rfl ?_
    refine g_get (C := RX4) (T := TX4) (N := 11) (v := .ref aW1) hC hinX4 0 2 rfl rfl (by decide) (List.mem_of_getElem? (i := 2) rfl) rfl dX4_about_119 ?_
    obtain ⟨z122, hz122, hf⟩ := gd_b hf
    refine g_callVi (wr := [oO aG 3 [.ref aT, .ref aP, .ref aW1, .ref aW2, .ref aAC, .int xG_actCount, .ref aKE, .int xG_heardMinutes, .int xG_silentMinutes, .int xG_toldCount, .long xG_seedNow], oO aT 1 [.ref aB, .int xT_length], oO aP 0 [.int xP_walkers, .int xP_light, .int xP_water, .int xP_nerves, .int xP_kinds]]) (wn := [oO aG 3 [.ref aT, .ref aP, .ref aW1, .ref aW2, .ref aAC, .int xG_actCount, .ref aKE, .int xG_heardMinutes, .int xG_silentMinutes, .int xG_toldCount, .long xG_seedNow], oO aT 1 [.ref aB, .int xT_length], oO aP 0 [.int xP_walkers, .int xP_light, .int xP_water, .int xP_nerves, .int xP_kinds], oO aW1 2 [.ref aP, .int xW1_row, .int xW1_quiets, .int xW1_place, .int xW1_turned]]) hC [] (cX3_row_m (kl X) (kD X) aP aW1 xW1_row xW1_quiets xW1_place xW1_turned z122 hz122) gX4_about_X3_row rfl kyX3_row rfl rfl rfl (q0 := 0) rfl [3] [0, 1, 2] [] [0, 1, 2, 3] rfl rfl rfl rfl (by decide) rfl rfl rfl ⟨rfl, rfl⟩ ⟨Nat.le_of_ble_eq_true rfl, Nat.le_of_ble_eq_true rfl⟩ (Nat.le_of_ble_eq_true rfl) rfl dX4_about_122 ?_
    obtain ⟨z125, hz125, hf⟩ := gd_b hf
    refine g_callSi (wr := [oO aG 3 [.ref aT, .ref aP, .ref aW1, .ref aW2, .ref aAC, .int xG_actCount, .ref aKE, .int xG_heardMinutes, .int xG_silentMinutes, .int xG_toldCount, .long xG_seedNow], oO aT 1 [.ref aB, .int xT_length], oO aP 0 [.int xP_walkers, .int xP_light, .int xP_water, .int xP_nerves, .int xP_kinds], oO aW1 2 [.ref aP, .int xW1_row, .int xW1_quiets, .int xW1_place, .int xW1_turned]]) (wn := [oO aG 3 [.ref aT, .ref aP, .ref aW1, .ref aW2, .ref aAC, .int xG_actCount, .ref aKE, .int xG_heardMinutes, .int xG_silentMinutes, .int xG_toldCount, .long xG_seedNow], oO aT 1 [.ref aB, .int xT_length], oO aP 0 [.int xP_walkers, .int xP_light, .int xP_water, .int xP_nerves, .int xP_kinds], oO aW1 2 [.ref aP, .int xW1_row, .int xW1_quiets, .int xW1_place, .int xW1_turned]]) hC [.int z122] (cX0_figures_m (kl X) (kD X) z122 z125 hz125) gX4_about_X0_figures rfl kyX0_figures rfl [] [0, 1, 2, 3] [] [0, 1, 2, 3] rfl rfl rfl rfl (by decide) rfl rfl rfl ⟨rfl, rfl⟩ ⟨Nat.le_of_ble_eq_true rfl, Nat.le_of_ble_eq_true rfl⟩ (Nat.le_of_ble_eq_true rfl) rfl dX4_about_125 ?_
    exact hQ (z125) _ _ (gd_s hf) dX4_about_128
  replace hf := gd_f c6 hf
  by_cases c7 : j1 = (7 : Int32)
  · replace hf := gd_t c7 hf
    refine g_tableIn (tgt := 129) hC c7 dX4_about_1 (by decide) (by decide) rfl (by decide) ?_
    refine g_aload_n hC 0 dX4_about_129 rfl rfl ?_
    refine g_get (C := RX4) (T := TX4) (N := 11) (v := .int xG_actCount) hC hinX4 0 5 rfl rfl (by decide) (List.mem_of_getElem? (i := 3) rfl) rfl dX4_about_130 ?_
    exact hQ (xG_actCount) _ _ (gd_s hf) dX4_about_133
  replace hf := gd_f c7 hf
  by_cases c8 : j1 = (8 : Int32)
  · replace hf := gd_t c8 hf
    refine g_tableIn (tgt := 134) hC c8 dX4_about_1 (by decide) (by decide) rfl (by decide) ?_
    refine g_aload_n hC 0 dX4_about_134 rfl rfl ?_
    refine g_get (C := RX4) (T := TX4) (N := 11) (v := .int xG_toldCount) hC hinX4 0 9 rfl rfl (by decide) (List.mem_of_getElem? (i := 4) rfl) rfl dX4_about_135 ?_
    exact hQ (xG_toldCount) _ _ (gd_s hf) dX4_about_138
  replace hf := gd_f c8 hf
  by_cases c9 : j1 = (9 : Int32)
  · replace hf := gd_t c9 hf
    refine g_tableIn (tgt := 139) hC c9 dX4_about_1 (by decide) (by decide) rfl (by decide) ?_
    refine g_aload_n hC 0 dX4_about_139 rfl rfl ?_
    refine g_get (C := RX4) (T := TX4) (N := 11) (v := .ref aT) hC hinX4 0 0 rfl rfl (by decide) (List.mem_of_getElem? (i := 5) rfl) rfl dX4_about_140 ?_
    obtain ⟨z143, hz143, hf⟩ := gd_b hf
    refine g_callVi (wr := [oO aG 3 [.ref aT, .ref aP, .ref aW1, .ref aW2, .ref aAC, .int xG_actCount, .ref aKE, .int xG_heardMinutes, .int xG_silentMinutes, .int xG_toldCount, .long xG_seedNow], oO aP 0 [.int xP_walkers, .int xP_light, .int xP_water, .int xP_nerves, .int xP_kinds], oO aW1 2 [.ref aP, .int xW1_row, .int xW1_quiets, .int xW1_place, .int xW1_turned]]) (wn := [oO aG 3 [.ref aT, .ref aP, .ref aW1, .ref aW2, .ref aAC, .int xG_actCount, .ref aKE, .int xG_heardMinutes, .int xG_silentMinutes, .int xG_toldCount, .long xG_seedNow], oO aT 1 [.ref aB, .int xT_length], oO aP 0 [.int xP_walkers, .int xP_light, .int xP_water, .int xP_nerves, .int xP_kinds], oO aW1 2 [.ref aP, .int xW1_row, .int xW1_quiets, .int xW1_place, .int xW1_turned]]) hC [] (cX2_length_m (kl X) (kD X) aT aB xT_length z143 hz143) gX4_about_X2_length rfl kyX2_length rfl rfl rfl (q0 := 0) rfl [1] [0, 2, 3] [] [0, 3, 1, 2] rfl rfl rfl rfl (by decide) rfl rfl rfl ⟨rfl, rfl⟩ ⟨Nat.le_of_ble_eq_true rfl, Nat.le_of_ble_eq_true rfl⟩ (Nat.le_of_ble_eq_true rfl) rfl dX4_about_143 ?_
    exact hQ (z143) _ _ (gd_s hf) dX4_about_146
  replace hf := gd_f c9 hf
  by_cases c10 : j1 = (10 : Int32)
  · replace hf := gd_t c10 hf
    refine g_tableIn (tgt := 147) hC c10 dX4_about_1 (by decide) (by decide) rfl (by decide) ?_
    refine g_aload_n hC 0 dX4_about_147 rfl rfl ?_
    refine g_get (C := RX4) (T := TX4) (N := 11) (v := .ref aW1) hC hinX4 0 2 rfl rfl (by decide) (List.mem_of_getElem? (i := 2) rfl) rfl dX4_about_148 ?_
    obtain ⟨z151, hz151, hf⟩ := gd_b hf
    refine g_callVi (wr := [oO aG 3 [.ref aT, .ref aP, .ref aW1, .ref aW2, .ref aAC, .int xG_actCount, .ref aKE, .int xG_heardMinutes, .int xG_silentMinutes, .int xG_toldCount, .long xG_seedNow], oO aT 1 [.ref aB, .int xT_length]]) (wn := [oO aG 3 [.ref aT, .ref aP, .ref aW1, .ref aW2, .ref aAC, .int xG_actCount, .ref aKE, .int xG_heardMinutes, .int xG_silentMinutes, .int xG_toldCount, .long xG_seedNow], oO aT 1 [.ref aB, .int xT_length], oO aP 0 [.int xP_walkers, .int xP_light, .int xP_water, .int xP_nerves, .int xP_kinds], oO aW1 2 [.ref aP, .int xW1_row, .int xW1_quiets, .int xW1_place, .int xW1_turned]]) hC [] (cX3_isOut_m (kl X) (kD X) aP aW1 xP_walkers xP_light xP_water xP_nerves xP_kinds xW1_row xW1_quiets xW1_place xW1_turned z151 hz151) gX4_about_X3_isOut rfl kyX3_isOut rfl rfl rfl (q0 := 1) rfl [2, 3] [0, 1] [] [0, 1, 2, 3] rfl rfl rfl rfl (by decide) rfl rfl rfl ⟨rfl, rfl⟩ ⟨Nat.le_of_ble_eq_true rfl, Nat.le_of_ble_eq_true rfl⟩ (Nat.le_of_ble_eq_true rfl) rfl dX4_about_151 ?_
    refine g_if_eq (tgt := 161) hC dX4_about_154 (by decide) (fun hc => ?_) (fun hc => ?_)
    · replace hf := gd_t hc hf
      refine g_iconst (v := (0 : Int32)) hC dX4_about_161 ci_0 ?_
      exact hQ ((0 : Int32)) _ _ (gd_s hf) dX4_about_162
    · replace hf := gd_f hc hf
      refine g_iconst (v := (1 : Int32)) hC dX4_about_157 ci_1 ?_
      refine g_goto (tgt := 162) hC dX4_about_158 (by decide) ?_
      exact hQ ((1 : Int32)) _ _ (gd_s hf) dX4_about_162
  replace hf := gd_f c10 hf
  refine g_tableOut (tgt := 163) hC dX4_about_1 (by have e0 := lv_neT c0 (a := 0) (by decide); have e1 := lv_neT c1 (a := 1) (by decide); have e2 := lv_neT c2 (a := 2) (by decide); have e3 := lv_neT c3 (a := 3) (by decide); have e4 := lv_neT c4 (a := 4) (by decide); have e5 := lv_neT c5 (a := 5) (by decide); have e6 := lv_neT c6 (a := 6) (by decide); have e7 := lv_neT c7 (a := 7) (by decide); have e8 := lv_neT c8 (a := 8) (by decide); have e9 := lv_neT c9 (a := 9) (by decide); have e10 := lv_neT c10 (a := 10) (by decide); omega) (by decide) ?_
  refine g_bipush (v := (-2 : Int32)) hC dX4_about_163 cb_m2 ?_
  exact hQ ((-2 : Int32)) _ _ (gd_s hf) dX4_about_165
theorem kyX4_walker : yX4_walker.cls = RX4 ∧ yX4_walker.cls ≠ "java/lang/invoke/MethodHandle" ∧ yX4_walker.cls ≠ "java/lang/invoke/VarHandle" ∧ (parseMethodDescriptor yX4_walker.desc).map (fun d => d.parameters.length) = some 2 := by decide +kernel
set_option maxHeartbeats 4000000 in
set_option maxRecDepth 100000 in
theorem cX4_walker_m (l : Launch) (D : va_G) (aG aT aP aW1 aW2 aAC aKE : Nat) (xG_actCount : Int32) (xG_heardMinutes : Int32) (xG_silentMinutes : Int32) (xG_toldCount : Int32) (xG_seedNow : Int64) (xP_walkers : Int32) (xP_light : Int32) (xP_water : Int32) (xP_nerves : Int32) (xP_kinds : Int32) (xW1_row : Int32) (xW1_quiets : Int32) (xW1_place : Int32) (xW1_turned : Int32) (j1 : Int32) (j2 : Int32) (z : Int32) (hf : fX4_walker j1 j2 xP_walkers xP_nerves xP_kinds xW1_row xW1_quiets = some z) : ∀ sz : Nat, Met l yX4_walker wsX4_walker ({ frames := 5, cells := 0, slots := 0, locals := 106 } : Room) (kPre D [] [oO aG 3 [.ref aT, .ref aP, .ref aW1, .ref aW2, .ref aAC, .int xG_actCount, .ref aKE, .int xG_heardMinutes, .int xG_silentMinutes, .int xG_toldCount, .long xG_seedNow], oO aP 0 [.int xP_walkers, .int xP_light, .int xP_water, .int xP_nerves, .int xP_kinds], oO aW1 2 [.ref aP, .int xW1_row, .int xW1_quiets, .int xW1_place, .int xW1_turned]] sz [.ref aG, .int j1, .int j2]) (kQi D [] [oO aG 3 [.ref aT, .ref aP, .ref aW1, .ref aW2, .ref aAC, .int xG_actCount, .ref aKE, .int xG_heardMinutes, .int xG_silentMinutes, .int xG_toldCount, .long xG_seedNow], oO aP 0 [.int xP_walkers, .int xP_light, .int xP_water, .int xP_nerves, .int xP_kinds], oO aW1 2 [.ref aP, .int xW1_row, .int xW1_quiets, .int xW1_place, .int xW1_turned]] sz [oO aG 3 [.ref aT, .ref aP, .ref aW1, .ref aW2, .ref aAC, .int xG_actCount, .ref aKE, .int xG_heardMinutes, .int xG_silentMinutes, .int xG_toldCount, .long xG_seedNow], oO aP 0 [.int xP_walkers, .int xP_light, .int xP_water, .int xP_nerves, .int xP_kinds], oO aW1 2 [.ref aP, .int xW1_row, .int xW1_quiets, .int xW1_place, .int xW1_turned]] z) 0 0 (va_A [oO aG 3 [.ref aT, .ref aP, .ref aW1, .ref aW2, .ref aAC, .int xG_actCount, .ref aKE, .int xG_heardMinutes, .int xG_silentMinutes, .int xG_toldCount, .long xG_seedNow], oO aP 0 [.int xP_walkers, .int xP_light, .int xP_water, .int xP_nerves, .int xP_kinds], oO aW1 2 [.ref aP, .int xW1_row, .int xW1_quiets, .int xW1_place, .int xW1_turned]] sz) := by
  refine kMet_i (own := RX4) z (fun u => u) (fun u => [oO aG 3 [.ref aT, .ref aP, .ref aW1, .ref aW2, .ref aAC, .int xG_actCount, .ref aKE, .int xG_heardMinutes, .int xG_silentMinutes, .int xG_toldCount, .long xG_seedNow], oO aP 0 [.int xP_walkers, .int xP_light, .int xP_water, .int xP_nerves, .int xP_kinds], oO aW1 2 [.ref aP, .int xW1_row, .int xW1_quiets, .int xW1_place, .int xW1_turned]]) rfl (by decide) rfl ⟨rfl, rfl⟩ (Nat.le_of_ble_eq_true rfl) ?_
  intro X hXl hXD hC hQ
  subst hXl
  subst hXD
  change kG X 0 [(0, .ref aG), (1, .int j1), (2, .int j2)] [] [oO aG 3 [.ref aT, .ref aP, .ref aW1, .ref aW2, .ref aAC, .int xG_actCount, .ref aKE, .int xG_heardMinutes, .int xG_silentMinutes, .int xG_toldCount, .long xG_seedNow], oO aP 0 [.int xP_walkers, .int xP_light, .int xP_water, .int xP_nerves, .int xP_kinds], oO aW1 2 [.ref aP, .int xW1_row, .int xW1_quiets, .int xW1_place, .int xW1_turned]]
  have hinX4 : ∀ w ∈ wsX40, w ∈ wsX4_walker := fun _ h => List.mem_cons_of_mem _ (List.mem_append_left _ (List.mem_append_left _ (List.mem_append_right _ h)))
  unfold fX4_walker at hf
  refine g_aload_n hC 0 dX4_walker_0 rfl rfl ?_
  refine g_get (C := RX4) (T := TX4) (N := 11) (v := .ref aP) hC hinX4 0 1 rfl rfl (by decide) (List.mem_of_getElem? (i := 1) rfl) rfl dX4_walker_1 ?_
  refine g_iload_n hC 1 dX4_walker_4 rfl rfl ?_
  obtain ⟨z5, hz5, hf⟩ := gd_b hf
  refine g_callVi (wr := [oO aG 3 [.ref aT, .ref aP, .ref aW1, .ref aW2, .ref aAC, .int xG_actCount, .ref aKE, .int xG_heardMinutes, .int xG_silentMinutes, .int xG_toldCount, .long xG_seedNow], oO aW1 2 [.ref aP, .int xW1_row, .int xW1_quiets, .int xW1_place, .int xW1_turned]]) (wn := [oO aG 3 [.ref aT, .ref aP, .ref aW1, .ref aW2, .ref aAC, .int xG_actCount, .ref aKE, .int xG_heardMinutes, .int xG_silentMinutes, .int xG_toldCount, .long xG_seedNow], oO aP 0 [.int xP_walkers, .int xP_light, .int xP_water, .int xP_nerves, .int xP_kinds], oO aW1 2 [.ref aP, .int xW1_row, .int xW1_quiets, .int xW1_place, .int xW1_turned]]) hC [.int j1] (cX1_has_m (kl X) (kD X) aP xP_walkers xP_light xP_water xP_nerves xP_kinds j1 z5 hz5) gX4_walker_X1_has rfl kyX1_has rfl rfl rfl (q0 := 0) rfl [1] [0, 2] [] [0, 2, 1] rfl rfl rfl rfl (by decide) rfl rfl rfl ⟨rfl, rfl⟩ ⟨Nat.le_of_ble_eq_true rfl, Nat.le_of_ble_eq_true rfl⟩ (Nat.le_of_ble_eq_true rfl) rfl dX4_walker_5 ?_
  refine g_if_ne (tgt := 13) hC dX4_walker_8 (by decide) (fun hc => ?_) (fun hc => ?_)
  · replace hf := gd_f hc hf
    refine g_iload_n hC 2 dX4_walker_13 rfl rfl ?_
    by_cases c0 : j2 = (0 : Int32)
    · replace hf := gd_t c0 hf
      refine g_tableIn (tgt := 48) hC c0 dX4_walker_14 (by decide) (by decide) rfl (by decide) ?_
      refine g_aload_n hC 0 dX4_walker_48 rfl rfl ?_
      refine g_get (C := RX4) (T := TX4) (N := 11) (v := .ref aP) hC hinX4 0 1 rfl rfl (by decide) (List.mem_of_getElem? (i := 1) rfl) rfl dX4_walker_49 ?_
      refine g_iload_n hC 1 dX4_walker_52 rfl rfl ?_
      obtain ⟨z53, hz53, hf⟩ := gd_b hf
      refine g_callVi (wr := [oO aG 3 [.ref aT, .ref aP, .ref aW1, .ref aW2, .ref aAC, .int xG_actCount, .ref aKE, .int xG_heardMinutes, .int xG_silentMinutes, .int xG_toldCount, .long xG_seedNow], oO aW1 2 [.ref aP, .int xW1_row, .int xW1_quiets, .int xW1_place, .int xW1_turned]]) (wn := [oO aG 3 [.ref aT, .ref aP, .ref aW1, .ref aW2, .ref aAC, .int xG_actCount, .ref aKE, .int xG_heardMinutes, .int xG_silentMinutes, .int xG_toldCount, .long xG_seedNow], oO aP 0 [.int xP_walkers, .int xP_light, .int xP_water, .int xP_nerves, .int xP_kinds], oO aW1 2 [.ref aP, .int xW1_row, .int xW1_quiets, .int xW1_place, .int xW1_turned]]) hC [.int j1] (cX1_nerve_m (kl X) (kD X) aP xP_walkers xP_light xP_water xP_nerves xP_kinds j1 z53 hz53) gX4_walker_X1_nerve rfl kyX1_nerve rfl rfl rfl (q0 := 0) rfl [1] [0, 2] [] [0, 2, 1] rfl rfl rfl rfl (by decide) rfl rfl rfl ⟨rfl, rfl⟩ ⟨Nat.le_of_ble_eq_true rfl, Nat.le_of_ble_eq_true rfl⟩ (Nat.le_of_ble_eq_true rfl) rfl dX4_walker_53 ?_
      exact hQ (z53) _ _ (gd_s hf) dX4_walker_56
    replace hf := gd_f c0 hf
    by_cases c1 : j2 = (1 : Int32)
    · replace hf := gd_t c1 hf
      refine g_tableIn (tgt := 57) hC c1 dX4_walker_14 (by decide) (by decide) rfl (by decide) ?_
      refine g_aload_n hC 0 dX4_walker_57 rfl rfl ?_
      refine g_get (C := RX4) (T := TX4) (N := 11) (v := .ref aP) hC hinX4 0 1 rfl rfl (by decide) (List.mem_of_getElem? (i := 1) rfl) rfl dX4_walker_58 ?_
      refine g_iload_n hC 1 dX4_walker_61 rfl rfl ?_
      obtain ⟨z62, hz62, hf⟩ := gd_b hf
      refine g_callVi (wr := [oO aG 3 [.ref aT, .ref aP, .ref aW1, .ref aW2, .ref aAC, .int xG_actCount, .ref aKE, .int xG_heardMinutes, .int xG_silentMinutes, .int xG_toldCount, .long xG_seedNow], oO aW1 2 [.ref aP, .int xW1_row, .int xW1_quiets, .int xW1_place, .int xW1_turned]]) (wn := [oO aG 3 [.ref aT, .ref aP, .ref aW1, .ref aW2, .ref aAC, .int xG_actCount, .ref aKE, .int xG_heardMinutes, .int xG_silentMinutes, .int xG_toldCount, .long xG_seedNow], oO aP 0 [.int xP_walkers, .int xP_light, .int xP_water, .int xP_nerves, .int xP_kinds], oO aW1 2 [.ref aP, .int xW1_row, .int xW1_quiets, .int xW1_place, .int xW1_turned]]) hC [.int j1] (cX1_kind_m (kl X) (kD X) aP xP_walkers xP_light xP_water xP_nerves xP_kinds j1 z62 hz62) gX4_walker_X1_kind rfl kyX1_kind rfl rfl rfl (q0 := 0) rfl [1] [0, 2] [] [0, 2, 1] rfl rfl rfl rfl (by decide) rfl rfl rfl ⟨rfl, rfl⟩ ⟨Nat.le_of_ble_eq_true rfl, Nat.le_of_ble_eq_true rfl⟩ (Nat.le_of_ble_eq_true rfl) rfl dX4_walker_62 ?_
      exact hQ (z62) _ _ (gd_s hf) dX4_walker_65
    replace hf := gd_f c1 hf
    by_cases c2 : j2 = (2 : Int32)
    · replace hf := gd_t c2 hf
      refine g_tableIn (tgt := 66) hC c2 dX4_walker_14 (by decide) (by decide) rfl (by decide) ?_
      refine g_aload_n hC 0 dX4_walker_66 rfl rfl ?_
      refine g_get (C := RX4) (T := TX4) (N := 11) (v := .ref aW1) hC hinX4 0 2 rfl rfl (by decide) (List.mem_of_getElem? (i := 2) rfl) rfl dX4_walker_67 ?_
      refine g_iload_n hC 1 dX4_walker_70 rfl rfl ?_
      obtain ⟨z71, hz71, hf⟩ := gd_b hf
      refine g_callVi (wr := [oO aG 3 [.ref aT, .ref aP, .ref aW1, .ref aW2, .ref aAC, .int xG_actCount, .ref aKE, .int xG_heardMinutes, .int xG_silentMinutes, .int xG_toldCount, .long xG_seedNow], oO aP 0 [.int xP_walkers, .int xP_light, .int xP_water, .int xP_nerves, .int xP_kinds]]) (wn := [oO aG 3 [.ref aT, .ref aP, .ref aW1, .ref aW2, .ref aAC, .int xG_actCount, .ref aKE, .int xG_heardMinutes, .int xG_silentMinutes, .int xG_toldCount, .long xG_seedNow], oO aP 0 [.int xP_walkers, .int xP_light, .int xP_water, .int xP_nerves, .int xP_kinds], oO aW1 2 [.ref aP, .int xW1_row, .int xW1_quiets, .int xW1_place, .int xW1_turned]]) hC [.int j1] (cX3_quiet_m (kl X) (kD X) aP aW1 xW1_row xW1_quiets xW1_place xW1_turned j1 z71 hz71) gX4_walker_X3_quiet rfl kyX3_quiet rfl rfl rfl (q0 := 0) rfl [2] [0, 1] [] [0, 1, 2] rfl rfl rfl rfl (by decide) rfl rfl rfl ⟨rfl, rfl⟩ ⟨Nat.le_of_ble_eq_true rfl, Nat.le_of_ble_eq_true rfl⟩ (Nat.le_of_ble_eq_true rfl) rfl dX4_walker_71 ?_
      exact hQ (z71) _ _ (gd_s hf) dX4_walker_74
    replace hf := gd_f c2 hf
    by_cases c3 : j2 = (3 : Int32)
    · replace hf := gd_t c3 hf
      refine g_tableIn (tgt := 75) hC c3 dX4_walker_14 (by decide) (by decide) rfl (by decide) ?_
      refine g_aload_n hC 0 dX4_walker_75 rfl rfl ?_
      refine g_get (C := RX4) (T := TX4) (N := 11) (v := .ref aW1) hC hinX4 0 2 rfl rfl (by decide) (List.mem_of_getElem? (i := 2) rfl) rfl dX4_walker_76 ?_
      refine g_iload_n hC 1 dX4_walker_79 rfl rfl ?_
      obtain ⟨z80, hz80, hf⟩ := gd_b hf
      refine g_callVi (wr := [oO aG 3 [.ref aT, .ref aP, .ref aW1, .ref aW2, .ref aAC, .int xG_actCount, .ref aKE, .int xG_heardMinutes, .int xG_silentMinutes, .int xG_toldCount, .long xG_seedNow], oO aP 0 [.int xP_walkers, .int xP_light, .int xP_water, .int xP_nerves, .int xP_kinds]]) (wn := [oO aG 3 [.ref aT, .ref aP, .ref aW1, .ref aW2, .ref aAC, .int xG_actCount, .ref aKE, .int xG_heardMinutes, .int xG_silentMinutes, .int xG_toldCount, .long xG_seedNow], oO aP 0 [.int xP_walkers, .int xP_light, .int xP_water, .int xP_nerves, .int xP_kinds], oO aW1 2 [.ref aP, .int xW1_row, .int xW1_quiets, .int xW1_place, .int xW1_turned]]) hC [.int j1] (cX3_indexOf_m (kl X) (kD X) aP aW1 xW1_row xW1_quiets xW1_place xW1_turned j1 z80 hz80) gX4_walker_X3_indexOf rfl kyX3_indexOf rfl rfl rfl (q0 := 0) rfl [2] [0, 1] [] [0, 1, 2] rfl rfl rfl rfl (by decide) rfl rfl rfl ⟨rfl, rfl⟩ ⟨Nat.le_of_ble_eq_true rfl, Nat.le_of_ble_eq_true rfl⟩ (Nat.le_of_ble_eq_true rfl) rfl dX4_walker_80 ?_
      exact hQ (z80) _ _ (gd_s hf) dX4_walker_83
    replace hf := gd_f c3 hf
    by_cases c4 : j2 = (4 : Int32)
    · replace hf := gd_t c4 hf
      refine g_tableIn (tgt := 84) hC c4 dX4_walker_14 (by decide) (by decide) rfl (by decide) ?_
      refine g_aload_n hC 0 dX4_walker_84 rfl rfl ?_
      refine g_get (C := RX4) (T := TX4) (N := 11) (v := .ref aW1) hC hinX4 0 2 rfl rfl (by decide) (List.mem_of_getElem? (i := 2) rfl) rfl dX4_walker_85 ?_
      refine g_iload_n hC 1 dX4_walker_88 rfl rfl ?_
      obtain ⟨z89, hz89, hf⟩ := gd_b hf
      refine g_callVi (wr := [oO aG 3 [.ref aT, .ref aP, .ref aW1, .ref aW2, .ref aAC, .int xG_actCount, .ref aKE, .int xG_heardMinutes, .int xG_silentMinutes, .int xG_toldCount, .long xG_seedNow], oO aP 0 [.int xP_walkers, .int xP_light, .int xP_water, .int xP_nerves, .int xP_kinds]]) (wn := [oO aG 3 [.ref aT, .ref aP, .ref aW1, .ref aW2, .ref aAC, .int xG_actCount, .ref aKE, .int xG_heardMinutes, .int xG_silentMinutes, .int xG_toldCount, .long xG_seedNow], oO aP 0 [.int xP_walkers, .int xP_light, .int xP_water, .int xP_nerves, .int xP_kinds], oO aW1 2 [.ref aP, .int xW1_row, .int xW1_quiets, .int xW1_place, .int xW1_turned]]) hC [.int j1] (cX3_behind_m (kl X) (kD X) aP aW1 xW1_row xW1_quiets xW1_place xW1_turned j1 z89 hz89) gX4_walker_X3_behind rfl kyX3_behind rfl rfl rfl (q0 := 0) rfl [2] [0, 1] [] [0, 1, 2] rfl rfl rfl rfl (by decide) rfl rfl rfl ⟨rfl, rfl⟩ ⟨Nat.le_of_ble_eq_true rfl, Nat.le_of_ble_eq_true rfl⟩ (Nat.le_of_ble_eq_true rfl) rfl dX4_walker_89 ?_
      exact hQ (z89) _ _ (gd_s hf) dX4_walker_92
    replace hf := gd_f c4 hf
    refine g_tableOut (tgt := 93) hC dX4_walker_14 (by have e0 := lv_neT c0 (a := 0) (by decide); have e1 := lv_neT c1 (a := 1) (by decide); have e2 := lv_neT c2 (a := 2) (by decide); have e3 := lv_neT c3 (a := 3) (by decide); have e4 := lv_neT c4 (a := 4) (by decide); omega) (by decide) ?_
    refine g_bipush (v := (-2 : Int32)) hC dX4_walker_93 cb_m2 ?_
    exact hQ ((-2 : Int32)) _ _ (gd_s hf) dX4_walker_95
  · replace hf := gd_t hc hf
    refine g_iconst (v := (-1 : Int32)) hC dX4_walker_11 ci_m1 ?_
    exact hQ ((-1 : Int32)) _ _ (gd_s hf) dX4_walker_12
theorem kyX4_remember : yX4_remember.cls = RX4 ∧ yX4_remember.cls ≠ "java/lang/invoke/MethodHandle" ∧ yX4_remember.cls ≠ "java/lang/invoke/VarHandle" ∧ (parseMethodDescriptor yX4_remember.desc).map (fun d => d.parameters.length) = some 0 := by decide +kernel
set_option maxHeartbeats 4000000 in
set_option maxRecDepth 100000 in
theorem cX4_remember_m (l : Launch) (D : va_G) (aG aT aP aW1 aW2 aAC aKE : Nat) (iAC : ClassId) (xG_actCount : Int32) (xG_heardMinutes : Int32) (xG_silentMinutes : Int32) (xG_toldCount : Int32) (xG_seedNow : Int64) (xW1_row : Int32) (xW1_quiets : Int32) (xW1_place : Int32) (xW1_turned : Int32) (xAC : Nat → Int64)  (z : Int32 × (Nat → Int64)) (hf : fX4_remember xG_actCount xW1_row xW1_quiets xW1_place xAC = some z) : ∀ sz : Nat, Met l yX4_remember wsX4_remember ({ frames := 1, cells := 0, slots := 0, locals := 24 } : Room) (kPre D [(iAC, .long)] [oO aG 3 [.ref aT, .ref aP, .ref aW1, .ref aW2, .ref aAC, .int xG_actCount, .ref aKE, .int xG_heardMinutes, .int xG_silentMinutes, .int xG_toldCount, .long xG_seedNow], oO aW1 2 [.ref aP, .int xW1_row, .int xW1_quiets, .int xW1_place, .int xW1_turned], oJ aAC iAC 14 xAC] sz [.ref aG]) (kQv D [(iAC, .long)] [oO aG 3 [.ref aT, .ref aP, .ref aW1, .ref aW2, .ref aAC, .int xG_actCount, .ref aKE, .int xG_heardMinutes, .int xG_silentMinutes, .int xG_toldCount, .long xG_seedNow], oO aW1 2 [.ref aP, .int xW1_row, .int xW1_quiets, .int xW1_place, .int xW1_turned], oJ aAC iAC 14 xAC] sz [oO aG 3 [.ref aT, .ref aP, .ref aW1, .ref aW2, .ref aAC, .int z.1, .ref aKE, .int xG_heardMinutes, .int xG_silentMinutes, .int xG_toldCount, .long xG_seedNow], oO aW1 2 [.ref aP, .int xW1_row, .int xW1_quiets, .int xW1_place, .int xW1_turned], oJ aAC iAC 14 z.2]) 0 0 (va_A [oO aG 3 [.ref aT, .ref aP, .ref aW1, .ref aW2, .ref aAC, .int xG_actCount, .ref aKE, .int xG_heardMinutes, .int xG_silentMinutes, .int xG_toldCount, .long xG_seedNow], oO aW1 2 [.ref aP, .int xW1_row, .int xW1_quiets, .int xW1_place, .int xW1_turned], oJ aAC iAC 14 xAC] sz) := by
  refine kMet_v (own := RX4) z (fun u => [oO aG 3 [.ref aT, .ref aP, .ref aW1, .ref aW2, .ref aAC, .int u.1, .ref aKE, .int xG_heardMinutes, .int xG_silentMinutes, .int xG_toldCount, .long xG_seedNow], oO aW1 2 [.ref aP, .int xW1_row, .int xW1_quiets, .int xW1_place, .int xW1_turned], oJ aAC iAC 14 u.2]) rfl (by decide) rfl ⟨rfl, rfl⟩ (Nat.le_of_ble_eq_true rfl) ?_
  intro X hXl hXD hC hQ
  subst hXl
  subst hXD
  change kG X 0 [(0, .ref aG)] [] [oO aG 3 [.ref aT, .ref aP, .ref aW1, .ref aW2, .ref aAC, .int xG_actCount, .ref aKE, .int xG_heardMinutes, .int xG_silentMinutes, .int xG_toldCount, .long xG_seedNow], oO aW1 2 [.ref aP, .int xW1_row, .int xW1_quiets, .int xW1_place, .int xW1_turned], oJ aAC iAC 14 xAC]
  have hinX4 : ∀ w ∈ wsX40, w ∈ wsX4_remember := fun _ h => List.mem_cons_of_mem _ (List.mem_append_left _ (List.mem_append_right _ h))
  have t43 : ∀  (xG_actCount : Int32) (xAC : Nat → Int64), fX4_remember_b43 xW1_row xW1_quiets xW1_place  xG_actCount xAC = some z → kG X 43 [(0, .ref aG)] [] [oO aG 3 [.ref aT, .ref aP, .ref aW1, .ref aW2, .ref aAC, .int xG_actCount, .ref aKE, .int xG_heardMinutes, .int xG_silentMinutes, .int xG_toldCount, .long xG_seedNow], oO aW1 2 [.ref aP, .int xW1_row, .int xW1_quiets, .int xW1_place, .int xW1_turned], oJ aAC iAC 14 xAC] := by
    intro xG_actCount xAC hf
    unfold fX4_remember_b43 at hf
    refine g_aload_n hC 0 dX4_remember_43 rfl rfl ?_
    refine g_get (C := RX4) (T := TX4) (N := 11) (v := .int xG_actCount) hC hinX4 0 5 rfl rfl (by decide) (List.mem_of_getElem? (i := 1) rfl) rfl dX4_remember_44 ?_
    refine g_if_lt (tgt := 76) hC dX4_remember_47 (by decide) (fun hc => ?_) (fun hc => ?_)
    · replace hf := gd_t hc hf
      exact hQ (xG_actCount, xAC) _ _ (gd_s hf) dX4_remember_76
    · replace hf := gd_f hc hf
      refine g_aload_n hC 0 dX4_remember_50 rfl rfl ?_
      refine g_get (C := RX4) (T := TX4) (N := 11) (v := .ref aAC) hC hinX4 0 4 rfl rfl (by decide) (List.mem_of_getElem? (i := 2) rfl) rfl dX4_remember_51 ?_
      refine g_aload_n hC 0 dX4_remember_54 rfl rfl ?_
      refine g_get (C := RX4) (T := TX4) (N := 11) (v := .int xG_actCount) hC hinX4 0 5 rfl rfl (by decide) (List.mem_of_getElem? (i := 1) rfl) rfl dX4_remember_55 ?_
      refine g_aload_n hC 0 dX4_remember_58 rfl rfl ?_
      refine g_get (C := RX4) (T := TX4) (N := 11) (v := .ref aW1) hC hinX4 0 2 rfl rfl (by decide) (List.mem_of_getElem? (i := 7) rfl) rfl dX4_remember_59 ?_
      obtain ⟨z62, hz62, hf⟩ := gd_b hf
      refine g_callVl (wr := [oO aG 3 [.ref aT, .ref aP, .ref aW1, .ref aW2, .ref aAC, .int xG_actCount, .ref aKE, .int xG_heardMinutes, .int xG_silentMinutes, .int xG_toldCount, .long xG_seedNow], oJ aAC iAC 14 xAC]) (wn := [oO aG 3 [.ref aT, .ref aP, .ref aW1, .ref aW2, .ref aAC, .int xG_actCount, .ref aKE, .int xG_heardMinutes, .int xG_silentMinutes, .int xG_toldCount, .long xG_seedNow], oO aW1 2 [.ref aP, .int xW1_row, .int xW1_quiets, .int xW1_place, .int xW1_turned], oJ aAC iAC 14 xAC]) hC [] (cX3_state_m (kl X) (kD X) aP aW1 xW1_row xW1_quiets xW1_place xW1_turned z62 hz62) gX4_remember_X3_state rfl kyX3_state rfl rfl rfl (q0 := 0) rfl [1] [0, 2] [] [0, 2, 1] rfl rfl rfl rfl (by decide) rfl rfl rfl ⟨rfl, rfl⟩ ⟨Nat.le_of_ble_eq_true rfl, Nat.le_of_ble_eq_true rfl⟩ (Nat.le_of_ble_eq_true rfl) rfl dX4_remember_62 ?_
      obtain ⟨hg, hf⟩ := gd_ga hf
      refine g_last (ws' := [oO aG 3 [.ref aT, .ref aP, .ref aW1, .ref aW2, .ref aAC, .int xG_actCount, .ref aKE, .int xG_heardMinutes, .int xG_silentMinutes, .int xG_toldCount, .long xG_seedNow], oO aW1 2 [.ref aP, .int xW1_row, .int xW1_quiets, .int xW1_place, .int xW1_turned], oJ aAC iAC 14 (vp_updL xAC xG_actCount.toNatClampNeg z62)]) hC 2 0 hg rfl rfl dX4_remember_65 rfl ?_
      refine g_aload_n hC 0 dX4_remember_66 rfl rfl ?_
      refine g_dup hC dX4_remember_67 rfl ?_
      refine g_get (C := RX4) (T := TX4) (N := 11) (v := .int xG_actCount) hC hinX4 0 5 rfl rfl (by decide) (List.mem_of_getElem? (i := 1) rfl) rfl dX4_remember_68 ?_
      refine g_iconst (v := (1 : Int32)) hC dX4_remember_71 ci_1 ?_
      refine g_iadd hC dX4_remember_72 ?_
      refine g_put (C := RX4) (T := TX4) (N := 11) (ty := .int) (ws' := [oO aG 3 [.ref aT, .ref aP, .ref aW1, .ref aW2, .ref aAC, .int (xG_actCount + (1 : Int32)), .ref aKE, .int xG_heardMinutes, .int xG_silentMinutes, .int xG_toldCount, .long xG_seedNow], oO aW1 2 [.ref aP, .int xW1_row, .int xW1_quiets, .int xW1_place, .int xW1_turned], oJ aAC iAC 14 (vp_updL xAC xG_actCount.toNatClampNeg z62)]) hC tyX4_ok nmX4 hinX4 0 5 rfl rfl (by decide) (List.mem_of_getElem? (i := 1) rfl) rfl rfl rfl rfl (Nat.le_of_ble_eq_true rfl) dX4_remember_73 rfl ?_
      exact hQ ((xG_actCount + (1 : Int32)), (vp_updL xAC xG_actCount.toNatClampNeg z62)) _ _ (gd_s hf) dX4_remember_76
  unfold fX4_remember at hf
  refine g_aload_n hC 0 dX4_remember_0 rfl rfl ?_
  refine g_get (C := RX4) (T := TX4) (N := 11) (v := .int xG_actCount) hC hinX4 0 5 rfl rfl (by decide) (List.mem_of_getElem? (i := 1) rfl) rfl dX4_remember_1 ?_
  refine g_aload_n hC 0 dX4_remember_4 rfl rfl ?_
  refine g_get (C := RX4) (T := TX4) (N := 11) (v := .ref aAC) hC hinX4 0 4 rfl rfl (by decide) (List.mem_of_getElem? (i := 2) rfl) rfl dX4_remember_5 ?_
  refine g_alen (v := (14 : Int32)) hC 2 0 rfl rfl cn_14 dX4_remember_8 ?_
  refine g_icmp_lt (tgt := 43) hC dX4_remember_9 (by decide) (fun hc => ?_) (fun hc => ?_)
  · replace hf := gd_t hc hf
    exact t43  xG_actCount xAC hf
  · replace hf := gd_f hc hf
    refine g_aload_n hC 0 dX4_remember_12 rfl rfl ?_
    refine g_get (C := RX4) (T := TX4) (N := 11) (v := .ref aAC) hC hinX4 0 4 rfl rfl (by decide) (List.mem_of_getElem? (i := 2) rfl) rfl dX4_remember_13 ?_
    refine g_iconst (v := (1 : Int32)) hC dX4_remember_16 ci_1 ?_
    refine g_aload_n hC 0 dX4_remember_17 rfl rfl ?_
    refine g_get (C := RX4) (T := TX4) (N := 11) (v := .ref aAC) hC hinX4 0 4 rfl rfl (by decide) (List.mem_of_getElem? (i := 2) rfl) rfl dX4_remember_18 ?_
    refine g_iconst (v := (0 : Int32)) hC dX4_remember_21 ci_0 ?_
    refine g_aload_n hC 0 dX4_remember_22 rfl rfl ?_
    refine g_get (C := RX4) (T := TX4) (N := 11) (v := .ref aAC) hC hinX4 0 4 rfl rfl (by decide) (List.mem_of_getElem? (i := 2) rfl) rfl dX4_remember_23 ?_
    refine g_alen (v := (14 : Int32)) hC 2 0 rfl rfl cn_14 dX4_remember_26 ?_
    refine g_iconst (v := (1 : Int32)) hC dX4_remember_27 ci_1 ?_
    refine g_isub hC dX4_remember_28 ?_
    refine g_copyl (ws' := [oO aG 3 [.ref aT, .ref aP, .ref aW1, .ref aW2, .ref aAC, .int xG_actCount, .ref aKE, .int xG_heardMinutes, .int xG_silentMinutes, .int xG_toldCount, .long xG_seedNow], oO aW1 2 [.ref aP, .int xW1_row, .int xW1_quiets, .int xW1_place, .int xW1_turned], oJ aAC iAC 14 (va_cpy xAC xAC 1 0 13)]) hC (List.mem_of_getElem? (i := 3) rfl) (List.mem_of_getElem? (i := 4) rfl) (List.mem_of_getElem? (i := 5) rfl) (List.mem_of_getElem? (i := 6) rfl) 2 2 0 0 rfl rfl rfl rfl (by decide) (by decide) (by decide) (by decide) (by decide) (by decide) (by decide) (by decide) (Nat.le_of_ble_eq_true rfl) (Nat.le_of_ble_eq_true rfl) dX4_remember_29 rfl ?_
    refine g_aload_n hC 0 dX4_remember_32 rfl rfl ?_
    refine g_aload_n hC 0 dX4_remember_33 rfl rfl ?_
    refine g_get (C := RX4) (T := TX4) (N := 11) (v := .ref aAC) hC hinX4 0 4 rfl rfl (by decide) (List.mem_of_getElem? (i := 2) rfl) rfl dX4_remember_34 ?_
    refine g_alen (v := (14 : Int32)) hC 2 0 rfl rfl cn_14 dX4_remember_37 ?_
    refine g_iconst (v := (1 : Int32)) hC dX4_remember_38 ci_1 ?_
    refine g_isub hC dX4_remember_39 ?_
    refine g_put (C := RX4) (T := TX4) (N := 11) (ty := .int) (ws' := [oO aG 3 [.ref aT, .ref aP, .ref aW1, .ref aW2, .ref aAC, .int ((14 : Int32) - (1 : Int32)), .ref aKE, .int xG_heardMinutes, .int xG_silentMinutes, .int xG_toldCount, .long xG_seedNow], oO aW1 2 [.ref aP, .int xW1_row, .int xW1_quiets, .int xW1_place, .int xW1_turned], oJ aAC iAC 14 (va_cpy xAC xAC 1 0 13)]) hC tyX4_ok nmX4 hinX4 0 5 rfl rfl (by decide) (List.mem_of_getElem? (i := 1) rfl) rfl rfl rfl rfl (Nat.le_of_ble_eq_true rfl) dX4_remember_40 rfl ?_
    exact t43  ((14 : Int32) - (1 : Int32)) (va_cpy xAC xAC 1 0 13) hf
theorem kyX4_minute : yX4_minute.cls = RX4 ∧ yX4_minute.cls ≠ "java/lang/invoke/MethodHandle" ∧ yX4_minute.cls ≠ "java/lang/invoke/VarHandle" ∧ (parseMethodDescriptor yX4_minute.desc).map (fun d => d.parameters.length) = some 1 := by decide +kernel
set_option maxHeartbeats 4000000 in
set_option maxRecDepth 100000 in
theorem cX4_minute_m (l : Launch) (D : va_G) (aG aT aP aW1 aW2 aAC aKE : Nat) (iAC : ClassId) (xG_actCount : Int32) (xG_heardMinutes : Int32) (xG_silentMinutes : Int32) (xG_toldCount : Int32) (xG_seedNow : Int64) (xP_walkers : Int32) (xP_light : Int32) (xP_water : Int32) (xP_nerves : Int32) (xP_kinds : Int32) (xW1_row : Int32) (xW1_quiets : Int32) (xW1_place : Int32) (xW1_turned : Int32) (xAC : Nat → Int64) (j1 : Int32) (z : Int32 × Int32 × Int32 × Int32 × Int32 × Int32 × (Nat → Int64)) (hf : fX4_minute j1 xG_actCount xP_walkers xP_light xP_water xP_nerves xP_kinds xW1_row xW1_quiets xW1_place xW1_turned xAC = some z) : ∀ sz : Nat, Met l yX4_minute wsX4_minute ({ frames := 4, cells := 0, slots := 0, locals := 92 } : Room) (kPre D [(iAC, .long)] [oO aG 3 [.ref aT, .ref aP, .ref aW1, .ref aW2, .ref aAC, .int xG_actCount, .ref aKE, .int xG_heardMinutes, .int xG_silentMinutes, .int xG_toldCount, .long xG_seedNow], oO aP 0 [.int xP_walkers, .int xP_light, .int xP_water, .int xP_nerves, .int xP_kinds], oO aW1 2 [.ref aP, .int xW1_row, .int xW1_quiets, .int xW1_place, .int xW1_turned], oJ aAC iAC 14 xAC] sz [.ref aG, .int j1]) (kQi D [(iAC, .long)] [oO aG 3 [.ref aT, .ref aP, .ref aW1, .ref aW2, .ref aAC, .int xG_actCount, .ref aKE, .int xG_heardMinutes, .int xG_silentMinutes, .int xG_toldCount, .long xG_seedNow], oO aP 0 [.int xP_walkers, .int xP_light, .int xP_water, .int xP_nerves, .int xP_kinds], oO aW1 2 [.ref aP, .int xW1_row, .int xW1_quiets, .int xW1_place, .int xW1_turned], oJ aAC iAC 14 xAC] sz [oO aG 3 [.ref aT, .ref aP, .ref aW1, .ref aW2, .ref aAC, .int z.2.1, .ref aKE, .int xG_heardMinutes, .int xG_silentMinutes, .int xG_toldCount, .long xG_seedNow], oO aP 0 [.int xP_walkers, .int xP_light, .int xP_water, .int xP_nerves, .int xP_kinds], oO aW1 2 [.ref aP, .int z.2.2.1, .int z.2.2.2.1, .int z.2.2.2.2.1, .int z.2.2.2.2.2.1], oJ aAC iAC 14 z.2.2.2.2.2.2] z.1) 0 0 (va_A [oO aG 3 [.ref aT, .ref aP, .ref aW1, .ref aW2, .ref aAC, .int xG_actCount, .ref aKE, .int xG_heardMinutes, .int xG_silentMinutes, .int xG_toldCount, .long xG_seedNow], oO aP 0 [.int xP_walkers, .int xP_light, .int xP_water, .int xP_nerves, .int xP_kinds], oO aW1 2 [.ref aP, .int xW1_row, .int xW1_quiets, .int xW1_place, .int xW1_turned], oJ aAC iAC 14 xAC] sz) := by
  refine kMet_i (own := RX4) z (fun u => u.1) (fun u => [oO aG 3 [.ref aT, .ref aP, .ref aW1, .ref aW2, .ref aAC, .int u.2.1, .ref aKE, .int xG_heardMinutes, .int xG_silentMinutes, .int xG_toldCount, .long xG_seedNow], oO aP 0 [.int xP_walkers, .int xP_light, .int xP_water, .int xP_nerves, .int xP_kinds], oO aW1 2 [.ref aP, .int u.2.2.1, .int u.2.2.2.1, .int u.2.2.2.2.1, .int u.2.2.2.2.2.1], oJ aAC iAC 14 u.2.2.2.2.2.2]) rfl (by decide) rfl ⟨rfl, rfl⟩ (Nat.le_of_ble_eq_true rfl) ?_
  intro X hXl hXD hC hQ
  subst hXl
  subst hXD
  change kG X 0 [(0, .ref aG), (1, .int j1)] [] [oO aG 3 [.ref aT, .ref aP, .ref aW1, .ref aW2, .ref aAC, .int xG_actCount, .ref aKE, .int xG_heardMinutes, .int xG_silentMinutes, .int xG_toldCount, .long xG_seedNow], oO aP 0 [.int xP_walkers, .int xP_light, .int xP_water, .int xP_nerves, .int xP_kinds], oO aW1 2 [.ref aP, .int xW1_row, .int xW1_quiets, .int xW1_place, .int xW1_turned], oJ aAC iAC 14 xAC]
  have hinX4 : ∀ w ∈ wsX40, w ∈ wsX4_minute := fun _ h => List.mem_cons_of_mem _ (List.mem_append_left _ (List.mem_append_left _ (List.mem_append_right _ h)))
  unfold fX4_minute at hf
  refine g_iload_n hC 1 dX4_minute_0 rfl rfl ?_
  refine g_iconst (v := (0 : Int32)) hC dX4_minute_1 ci_0 ?_
  refine g_aload_n hC 0 dX4_minute_2 rfl rfl ?_
  refine g_get (C := RX4) (T := TX4) (N := 11) (v := .ref aP) hC hinX4 0 1 rfl rfl (by decide) (List.mem_of_getElem? (i := 1) rfl) rfl dX4_minute_3 ?_
  obtain ⟨z6, hz6, hf⟩ := gd_b hf
  refine g_callVi (wr := [oO aG 3 [.ref aT, .ref aP, .ref aW1, .ref aW2, .ref aAC, .int xG_actCount, .ref aKE, .int xG_heardMinutes, .int xG_silentMinutes, .int xG_toldCount, .long xG_seedNow], oO aW1 2 [.ref aP, .int xW1_row, .int xW1_quiets, .int xW1_place, .int xW1_turned], oJ aAC iAC 14 xAC]) (wn := [oO aG 3 [.ref aT, .ref aP, .ref aW1, .ref aW2, .ref aAC, .int xG_actCount, .ref aKE, .int xG_heardMinutes, .int xG_silentMinutes, .int xG_toldCount, .long xG_seedNow], oO aP 0 [.int xP_walkers, .int xP_light, .int xP_water, .int xP_nerves, .int xP_kinds], oO aW1 2 [.ref aP, .int xW1_row, .int xW1_quiets, .int xW1_place, .int xW1_turned], oJ aAC iAC 14 xAC]) hC [] (cX1_everybody_m (kl X) (kD X) aP xP_walkers xP_light xP_water xP_nerves xP_kinds z6 hz6) gX4_minute_X1_everybody rfl kyX1_everybody rfl rfl rfl (q0 := 0) rfl [1] [0, 2, 3] [] [0, 3, 1, 2] rfl rfl rfl rfl (by decide) rfl rfl rfl ⟨rfl, rfl⟩ ⟨Nat.le_of_ble_eq_true rfl, Nat.le_of_ble_eq_true rfl⟩ (Nat.le_of_ble_eq_true rfl) rfl dX4_minute_6 ?_
  obtain ⟨z9, hz9, hf⟩ := gd_b hf
  refine g_callSi (wr := [oO aG 3 [.ref aT, .ref aP, .ref aW1, .ref aW2, .ref aAC, .int xG_actCount, .ref aKE, .int xG_heardMinutes, .int xG_silentMinutes, .int xG_toldCount, .long xG_seedNow], oO aP 0 [.int xP_walkers, .int xP_light, .int xP_water, .int xP_nerves, .int xP_kinds], oO aW1 2 [.ref aP, .int xW1_row, .int xW1_quiets, .int xW1_place, .int xW1_turned], oJ aAC iAC 14 xAC]) (wn := [oO aG 3 [.ref aT, .ref aP, .ref aW1, .ref aW2, .ref aAC, .int xG_actCount, .ref aKE, .int xG_heardMinutes, .int xG_silentMinutes, .int xG_toldCount, .long xG_seedNow], oO aP 0 [.int xP_walkers, .int xP_light, .int xP_water, .int xP_nerves, .int xP_kinds], oO aW1 2 [.ref aP, .int xW1_row, .int xW1_quiets, .int xW1_place, .int xW1_turned], oJ aAC iAC 14 xAC]) hC [.int j1, .int (0 : Int32), .int z6] (cX4_within_m (kl X) (kD X) j1 (0 : Int32) z6 z9 hz9) gX4_minute_X4_within rfl kyX4_within rfl [] [0, 1, 2, 3] [] [0, 1, 2, 3] rfl rfl rfl rfl (by decide) rfl rfl rfl ⟨rfl, rfl⟩ ⟨Nat.le_of_ble_eq_true rfl, Nat.le_of_ble_eq_true rfl⟩ (Nat.le_of_ble_eq_true rfl) rfl dX4_minute_9 ?_
  refine g_if_ne (tgt := 18) hC dX4_minute_12 (by decide) (fun hc => ?_) (fun hc => ?_)
  · replace hf := gd_f hc hf
    refine g_aload_n hC 0 dX4_minute_18 rfl rfl ?_
    refine g_get (C := RX4) (T := TX4) (N := 11) (v := .ref aW1) hC hinX4 0 2 rfl rfl (by decide) (List.mem_of_getElem? (i := 2) rfl) rfl dX4_minute_19 ?_
    obtain ⟨z22, hz22, hf⟩ := gd_b hf
    refine g_callVi (wr := [oO aG 3 [.ref aT, .ref aP, .ref aW1, .ref aW2, .ref aAC, .int xG_actCount, .ref aKE, .int xG_heardMinutes, .int xG_silentMinutes, .int xG_toldCount, .long xG_seedNow], oJ aAC iAC 14 xAC]) (wn := [oO aG 3 [.ref aT, .ref aP, .ref aW1, .ref aW2, .ref aAC, .int xG_actCount, .ref aKE, .int xG_heardMinutes, .int xG_silentMinutes, .int xG_toldCount, .long xG_seedNow], oO aP 0 [.int xP_walkers, .int xP_light, .int xP_water, .int xP_nerves, .int xP_kinds], oO aW1 2 [.ref aP, .int xW1_row, .int xW1_quiets, .int xW1_place, .int xW1_turned], oJ aAC iAC 14 xAC]) hC [] (cX3_isOut_m (kl X) (kD X) aP aW1 xP_walkers xP_light xP_water xP_nerves xP_kinds xW1_row xW1_quiets xW1_place xW1_turned z22 hz22) gX4_minute_X3_isOut rfl kyX3_isOut rfl rfl rfl (q0 := 1) rfl [1, 2] [0, 3] [] [0, 2, 3, 1] rfl rfl rfl rfl (by decide) rfl rfl rfl ⟨rfl, rfl⟩ ⟨Nat.le_of_ble_eq_true rfl, Nat.le_of_ble_eq_true rfl⟩ (Nat.le_of_ble_eq_true rfl) rfl dX4_minute_22 ?_
    refine g_if_eq (tgt := 31) hC dX4_minute_25 (by decide) (fun hc => ?_) (fun hc => ?_)
    · replace hf := gd_t hc hf
      refine g_aload_n hC 0 dX4_minute_31 rfl rfl ?_
      obtain ⟨z32, hz32, hf⟩ := gd_b hf
      refine g_callVv (wr := [oO aP 0 [.int xP_walkers, .int xP_light, .int xP_water, .int xP_nerves, .int xP_kinds]]) (wn := [oO aG 3 [.ref aT, .ref aP, .ref aW1, .ref aW2, .ref aAC, .int z32.1, .ref aKE, .int xG_heardMinutes, .int xG_silentMinutes, .int xG_toldCount, .long xG_seedNow], oO aP 0 [.int xP_walkers, .int xP_light, .int xP_water, .int xP_nerves, .int xP_kinds], oO aW1 2 [.ref aP, .int xW1_row, .int xW1_quiets, .int xW1_place, .int xW1_turned], oJ aAC iAC 14 z32.2]) hC [] (cX4_remember_m (kl X) (kD X) aG aT aP aW1 aW2 aAC aKE iAC xG_actCount xG_heardMinutes xG_silentMinutes xG_toldCount xG_seedNow xW1_row xW1_quiets xW1_place xW1_turned xAC z32 hz32) gX4_minute_X4_remember rfl kyX4_remember rfl rfl rfl (q0 := 0) rfl [0, 2, 3] [1] [0] [1, 0, 2, 3] rfl rfl rfl rfl (by decide) rfl rfl rfl ⟨rfl, rfl⟩ ⟨Nat.le_of_ble_eq_true rfl, Nat.le_of_ble_eq_true rfl⟩ (Nat.le_of_ble_eq_true rfl) rfl dX4_minute_32 ?_
      refine g_aload_n hC 0 dX4_minute_35 rfl rfl ?_
      refine g_get (C := RX4) (T := TX4) (N := 11) (v := .ref aW1) hC hinX4 0 2 rfl rfl (by decide) (List.mem_of_getElem? (i := 2) rfl) rfl dX4_minute_36 ?_
      refine g_iload_n hC 1 dX4_minute_39 rfl rfl ?_
      obtain ⟨z40, hz40, hf⟩ := gd_b hf
      refine g_callVi (wr := [oO aG 3 [.ref aT, .ref aP, .ref aW1, .ref aW2, .ref aAC, .int z32.1, .ref aKE, .int xG_heardMinutes, .int xG_silentMinutes, .int xG_toldCount, .long xG_seedNow], oJ aAC iAC 14 z32.2]) (wn := [oO aG 3 [.ref aT, .ref aP, .ref aW1, .ref aW2, .ref aAC, .int z32.1, .ref aKE, .int xG_heardMinutes, .int xG_silentMinutes, .int xG_toldCount, .long xG_seedNow], oO aP 0 [.int xP_walkers, .int xP_light, .int xP_water, .int xP_nerves, .int xP_kinds], oO aW1 2 [.ref aP, .int z40.2.1, .int z40.2.2.1, .int z40.2.2.2.1, .int z40.2.2.2.2], oJ aAC iAC 14 z32.2]) hC [.int j1] (cX3_step_m (kl X) (kD X) aP aW1 xP_walkers xP_light xP_water xP_nerves xP_kinds xW1_row xW1_quiets xW1_place xW1_turned j1 z40 hz40) gX4_minute_X3_step rfl kyX3_step rfl rfl rfl (q0 := 1) rfl [1, 2] [0, 3] [] [0, 2, 3, 1] rfl rfl rfl rfl (by decide) rfl rfl rfl ⟨rfl, rfl⟩ ⟨Nat.le_of_ble_eq_true rfl, Nat.le_of_ble_eq_true rfl⟩ (Nat.le_of_ble_eq_true rfl) rfl dX4_minute_40 ?_
      exact hQ (z40.1, z32.1, z40.2.1, z40.2.2.1, z40.2.2.2.1, z40.2.2.2.2, z32.2) _ _ (gd_s hf) dX4_minute_43
    · replace hf := gd_f hc hf
      refine g_bipush (v := (-3 : Int32)) hC dX4_minute_28 cb_m3 ?_
      exact hQ ((-3 : Int32), xG_actCount, xW1_row, xW1_quiets, xW1_place, xW1_turned, xAC) _ _ (gd_s hf) dX4_minute_30
  · replace hf := gd_t hc hf
    refine g_bipush (v := (-2 : Int32)) hC dX4_minute_15 cb_m2 ?_
    exact hQ ((-2 : Int32), xG_actCount, xW1_row, xW1_quiets, xW1_place, xW1_turned, xAC) _ _ (gd_s hf) dX4_minute_17
theorem kyX4_change : yX4_change.cls = RX4 ∧ yX4_change.cls ≠ "java/lang/invoke/MethodHandle" ∧ yX4_change.cls ≠ "java/lang/invoke/VarHandle" ∧ (parseMethodDescriptor yX4_change.desc).map (fun d => d.parameters.length) = some 1 := by decide +kernel
set_option maxHeartbeats 4000000 in
set_option maxRecDepth 100000 in
theorem cX4_change_m (l : Launch) (D : va_G) (aG aT aP aW1 aW2 aAC aKE : Nat) (iAC : ClassId) (xG_actCount : Int32) (xG_heardMinutes : Int32) (xG_silentMinutes : Int32) (xG_toldCount : Int32) (xG_seedNow : Int64) (xP_walkers : Int32) (xP_light : Int32) (xP_water : Int32) (xP_nerves : Int32) (xP_kinds : Int32) (xW1_row : Int32) (xW1_quiets : Int32) (xW1_place : Int32) (xW1_turned : Int32) (xAC : Nat → Int64) (j1 : Int32) (z : Int32 × Int32 × Int32 × Int32 × (Nat → Int64)) (hf : fX4_change j1 xG_actCount xP_light xW1_row xW1_quiets xW1_place xAC = some z) : ∀ sz : Nat, Met l yX4_change wsX4_change ({ frames := 3, cells := 0, slots := 0, locals := 65 } : Room) (kPre D [(iAC, .long)] [oO aG 3 [.ref aT, .ref aP, .ref aW1, .ref aW2, .ref aAC, .int xG_actCount, .ref aKE, .int xG_heardMinutes, .int xG_silentMinutes, .int xG_toldCount, .long xG_seedNow], oO aP 0 [.int xP_walkers, .int xP_light, .int xP_water, .int xP_nerves, .int xP_kinds], oO aW1 2 [.ref aP, .int xW1_row, .int xW1_quiets, .int xW1_place, .int xW1_turned], oJ aAC iAC 14 xAC] sz [.ref aG, .int j1]) (kQi D [(iAC, .long)] [oO aG 3 [.ref aT, .ref aP, .ref aW1, .ref aW2, .ref aAC, .int xG_actCount, .ref aKE, .int xG_heardMinutes, .int xG_silentMinutes, .int xG_toldCount, .long xG_seedNow], oO aP 0 [.int xP_walkers, .int xP_light, .int xP_water, .int xP_nerves, .int xP_kinds], oO aW1 2 [.ref aP, .int xW1_row, .int xW1_quiets, .int xW1_place, .int xW1_turned], oJ aAC iAC 14 xAC] sz [oO aG 3 [.ref aT, .ref aP, .ref aW1, .ref aW2, .ref aAC, .int z.2.1, .ref aKE, .int xG_heardMinutes, .int xG_silentMinutes, .int xG_toldCount, .long xG_seedNow], oO aP 0 [.int xP_walkers, .int xP_light, .int xP_water, .int xP_nerves, .int xP_kinds], oO aW1 2 [.ref aP, .int z.2.2.1, .int z.2.2.2.1, .int xW1_place, .int xW1_turned], oJ aAC iAC 14 z.2.2.2.2] z.1) 0 0 (va_A [oO aG 3 [.ref aT, .ref aP, .ref aW1, .ref aW2, .ref aAC, .int xG_actCount, .ref aKE, .int xG_heardMinutes, .int xG_silentMinutes, .int xG_toldCount, .long xG_seedNow], oO aP 0 [.int xP_walkers, .int xP_light, .int xP_water, .int xP_nerves, .int xP_kinds], oO aW1 2 [.ref aP, .int xW1_row, .int xW1_quiets, .int xW1_place, .int xW1_turned], oJ aAC iAC 14 xAC] sz) := by
  refine kMet_i (own := RX4) z (fun u => u.1) (fun u => [oO aG 3 [.ref aT, .ref aP, .ref aW1, .ref aW2, .ref aAC, .int u.2.1, .ref aKE, .int xG_heardMinutes, .int xG_silentMinutes, .int xG_toldCount, .long xG_seedNow], oO aP 0 [.int xP_walkers, .int xP_light, .int xP_water, .int xP_nerves, .int xP_kinds], oO aW1 2 [.ref aP, .int u.2.2.1, .int u.2.2.2.1, .int xW1_place, .int xW1_turned], oJ aAC iAC 14 u.2.2.2.2]) rfl (by decide) rfl ⟨rfl, rfl⟩ (Nat.le_of_ble_eq_true rfl) ?_
  intro X hXl hXD hC hQ
  subst hXl
  subst hXD
  change kG X 0 [(0, .ref aG), (1, .int j1)] [] [oO aG 3 [.ref aT, .ref aP, .ref aW1, .ref aW2, .ref aAC, .int xG_actCount, .ref aKE, .int xG_heardMinutes, .int xG_silentMinutes, .int xG_toldCount, .long xG_seedNow], oO aP 0 [.int xP_walkers, .int xP_light, .int xP_water, .int xP_nerves, .int xP_kinds], oO aW1 2 [.ref aP, .int xW1_row, .int xW1_quiets, .int xW1_place, .int xW1_turned], oJ aAC iAC 14 xAC]
  have hinX4 : ∀ w ∈ wsX40, w ∈ wsX4_change := fun _ h => List.mem_cons_of_mem _ (List.mem_append_left _ (List.mem_append_left _ (List.mem_append_right _ h)))
  unfold fX4_change at hf
  refine g_iload_n hC 1 dX4_change_0 rfl rfl ?_
  refine g_iconst (v := (0 : Int32)) hC dX4_change_1 ci_0 ?_
  refine g_iconst (v := (3 : Int32)) hC dX4_change_2 ci_3 ?_
  obtain ⟨z3, hz3, hf⟩ := gd_b hf
  refine g_callSi (wr := [oO aG 3 [.ref aT, .ref aP, .ref aW1, .ref aW2, .ref aAC, .int xG_actCount, .ref aKE, .int xG_heardMinutes, .int xG_silentMinutes, .int xG_toldCount, .long xG_seedNow], oO aP 0 [.int xP_walkers, .int xP_light, .int xP_water, .int xP_nerves, .int xP_kinds], oO aW1 2 [.ref aP, .int xW1_row, .int xW1_quiets, .int xW1_place, .int xW1_turned], oJ aAC iAC 14 xAC]) (wn := [oO aG 3 [.ref aT, .ref aP, .ref aW1, .ref aW2, .ref aAC, .int xG_actCount, .ref aKE, .int xG_heardMinutes, .int xG_silentMinutes, .int xG_toldCount, .long xG_seedNow], oO aP 0 [.int xP_walkers, .int xP_light, .int xP_water, .int xP_nerves, .int xP_kinds], oO aW1 2 [.ref aP, .int xW1_row, .int xW1_quiets, .int xW1_place, .int xW1_turned], oJ aAC iAC 14 xAC]) hC [.int j1, .int (0 : Int32), .int (3 : Int32)] (cX4_within_m (kl X) (kD X) j1 (0 : Int32) (3 : Int32) z3 hz3) gX4_change_X4_within rfl kyX4_within rfl [] [0, 1, 2, 3] [] [0, 1, 2, 3] rfl rfl rfl rfl (by decide) rfl rfl rfl ⟨rfl, rfl⟩ ⟨Nat.le_of_ble_eq_true rfl, Nat.le_of_ble_eq_true rfl⟩ (Nat.le_of_ble_eq_true rfl) rfl dX4_change_3 ?_
  refine g_if_ne (tgt := 12) hC dX4_change_6 (by decide) (fun hc => ?_) (fun hc => ?_)
  · replace hf := gd_f hc hf
    refine g_aload_n hC 0 dX4_change_12 rfl rfl ?_
    refine g_get (C := RX4) (T := TX4) (N := 11) (v := .ref aW1) hC hinX4 0 2 rfl rfl (by decide) (List.mem_of_getElem? (i := 1) rfl) rfl dX4_change_13 ?_
    obtain ⟨z16, hz16, hf⟩ := gd_b hf
    refine g_callVi (wr := [oO aG 3 [.ref aT, .ref aP, .ref aW1, .ref aW2, .ref aAC, .int xG_actCount, .ref aKE, .int xG_heardMinutes, .int xG_silentMinutes, .int xG_toldCount, .long xG_seedNow], oJ aAC iAC 14 xAC]) (wn := [oO aG 3 [.ref aT, .ref aP, .ref aW1, .ref aW2, .ref aAC, .int xG_actCount, .ref aKE, .int xG_heardMinutes, .int xG_silentMinutes, .int xG_toldCount, .long xG_seedNow], oO aP 0 [.int xP_walkers, .int xP_light, .int xP_water, .int xP_nerves, .int xP_kinds], oO aW1 2 [.ref aP, .int xW1_row, .int xW1_quiets, .int xW1_place, .int xW1_turned], oJ aAC iAC 14 xAC]) hC [] (cX3_isOut_m (kl X) (kD X) aP aW1 xP_walkers xP_light xP_water xP_nerves xP_kinds xW1_row xW1_quiets xW1_place xW1_turned z16 hz16) gX4_change_X3_isOut rfl kyX3_isOut rfl rfl rfl (q0 := 1) rfl [1, 2] [0, 3] [] [0, 2, 3, 1] rfl rfl rfl rfl (by decide) rfl rfl rfl ⟨rfl, rfl⟩ ⟨Nat.le_of_ble_eq_true rfl, Nat.le_of_ble_eq_true rfl⟩ (Nat.le_of_ble_eq_true rfl) rfl dX4_change_16 ?_
    refine g_if_ne (tgt := 35) hC dX4_change_19 (by decide) (fun hc => ?_) (fun hc => ?_)
    · replace hf := gd_f hc hf
      refine g_bipush (v := (-3 : Int32)) hC dX4_change_35 cb_m3 ?_
      exact hQ ((-3 : Int32), xG_actCount, xW1_row, xW1_quiets, xAC) _ _ (gd_s hf) dX4_change_37
    · replace hf := gd_t hc hf
      refine g_iload_n hC 1 dX4_change_22 rfl rfl ?_
      refine g_iconst (v := (1 : Int32)) hC dX4_change_23 ci_1 ?_
      refine g_iadd hC dX4_change_24 ?_
      refine g_aload_n hC 0 dX4_change_25 rfl rfl ?_
      refine g_get (C := RX4) (T := TX4) (N := 11) (v := .ref aW1) hC hinX4 0 2 rfl rfl (by decide) (List.mem_of_getElem? (i := 1) rfl) rfl dX4_change_26 ?_
      obtain ⟨z29, hz29, hf⟩ := gd_b hf
      refine g_callVi (wr := [oO aG 3 [.ref aT, .ref aP, .ref aW1, .ref aW2, .ref aAC, .int xG_actCount, .ref aKE, .int xG_heardMinutes, .int xG_silentMinutes, .int xG_toldCount, .long xG_seedNow], oO aP 0 [.int xP_walkers, .int xP_light, .int xP_water, .int xP_nerves, .int xP_kinds], oJ aAC iAC 14 xAC]) (wn := [oO aG 3 [.ref aT, .ref aP, .ref aW1, .ref aW2, .ref aAC, .int xG_actCount, .ref aKE, .int xG_heardMinutes, .int xG_silentMinutes, .int xG_toldCount, .long xG_seedNow], oO aP 0 [.int xP_walkers, .int xP_light, .int xP_water, .int xP_nerves, .int xP_kinds], oO aW1 2 [.ref aP, .int xW1_row, .int xW1_quiets, .int xW1_place, .int xW1_turned], oJ aAC iAC 14 xAC]) hC [] (cX3_size_m (kl X) (kD X) aP aW1 xW1_row xW1_quiets xW1_place xW1_turned z29 hz29) gX4_change_X3_size rfl kyX3_size rfl rfl rfl (q0 := 0) rfl [2] [0, 1, 3] [] [0, 1, 3, 2] rfl rfl rfl rfl (by decide) rfl rfl rfl ⟨rfl, rfl⟩ ⟨Nat.le_of_ble_eq_true rfl, Nat.le_of_ble_eq_true rfl⟩ (Nat.le_of_ble_eq_true rfl) rfl dX4_change_29 ?_
      refine g_icmp_lt (tgt := 38) hC dX4_change_32 (by decide) (fun hc => ?_) (fun hc => ?_)
      · replace hf := gd_t hc hf
        refine g_aload_n hC 0 dX4_change_38 rfl rfl ?_
        obtain ⟨z39, hz39, hf⟩ := gd_b hf
        refine g_callVv (wr := [oO aP 0 [.int xP_walkers, .int xP_light, .int xP_water, .int xP_nerves, .int xP_kinds]]) (wn := [oO aG 3 [.ref aT, .ref aP, .ref aW1, .ref aW2, .ref aAC, .int z39.1, .ref aKE, .int xG_heardMinutes, .int xG_silentMinutes, .int xG_toldCount, .long xG_seedNow], oO aP 0 [.int xP_walkers, .int xP_light, .int xP_water, .int xP_nerves, .int xP_kinds], oO aW1 2 [.ref aP, .int xW1_row, .int xW1_quiets, .int xW1_place, .int xW1_turned], oJ aAC iAC 14 z39.2]) hC [] (cX4_remember_m (kl X) (kD X) aG aT aP aW1 aW2 aAC aKE iAC xG_actCount xG_heardMinutes xG_silentMinutes xG_toldCount xG_seedNow xW1_row xW1_quiets xW1_place xW1_turned xAC z39 hz39) gX4_change_X4_remember rfl kyX4_remember rfl rfl rfl (q0 := 0) rfl [0, 2, 3] [1] [0] [1, 0, 2, 3] rfl rfl rfl rfl (by decide) rfl rfl rfl ⟨rfl, rfl⟩ ⟨Nat.le_of_ble_eq_true rfl, Nat.le_of_ble_eq_true rfl⟩ (Nat.le_of_ble_eq_true rfl) rfl dX4_change_39 ?_
        refine g_aload_n hC 0 dX4_change_42 rfl rfl ?_
        refine g_get (C := RX4) (T := TX4) (N := 11) (v := .ref aW1) hC hinX4 0 2 rfl rfl (by decide) (List.mem_of_getElem? (i := 1) rfl) rfl dX4_change_43 ?_
        refine g_iload_n hC 1 dX4_change_46 rfl rfl ?_
        obtain ⟨z47, hz47, hf⟩ := gd_b hf
        refine g_callVv (wr := [oO aG 3 [.ref aT, .ref aP, .ref aW1, .ref aW2, .ref aAC, .int z39.1, .ref aKE, .int xG_heardMinutes, .int xG_silentMinutes, .int xG_toldCount, .long xG_seedNow], oO aP 0 [.int xP_walkers, .int xP_light, .int xP_water, .int xP_nerves, .int xP_kinds], oJ aAC iAC 14 z39.2]) (wn := [oO aG 3 [.ref aT, .ref aP, .ref aW1, .ref aW2, .ref aAC, .int z39.1, .ref aKE, .int xG_heardMinutes, .int xG_silentMinutes, .int xG_toldCount, .long xG_seedNow], oO aP 0 [.int xP_walkers, .int xP_light, .int xP_water, .int xP_nerves, .int xP_kinds], oO aW1 2 [.ref aP, .int z47.1, .int z47.2, .int xW1_place, .int xW1_turned], oJ aAC iAC 14 z39.2]) hC [.int j1] (cX3_changePlaces_m (kl X) (kD X) aP aW1 xW1_row xW1_quiets xW1_place xW1_turned j1 z47 hz47) gX4_change_X3_changePlaces rfl kyX3_changePlaces rfl rfl rfl (q0 := 0) rfl [2] [0, 1, 3] [] [0, 1, 3, 2] rfl rfl rfl rfl (by decide) rfl rfl rfl ⟨rfl, rfl⟩ ⟨Nat.le_of_ble_eq_true rfl, Nat.le_of_ble_eq_true rfl⟩ (Nat.le_of_ble_eq_true rfl) rfl dX4_change_47 ?_
        refine g_aload_n hC 0 dX4_change_50 rfl rfl ?_
        refine g_get (C := RX4) (T := TX4) (N := 11) (v := .ref aW1) hC hinX4 0 2 rfl rfl (by decide) (List.mem_of_getElem? (i := 1) rfl) rfl dX4_change_51 ?_
        obtain ⟨z54, hz54, hf⟩ := gd_b hf
        refine g_callVi (wr := [oO aG 3 [.ref aT, .ref aP, .ref aW1, .ref aW2, .ref aAC, .int z39.1, .ref aKE, .int xG_heardMinutes, .int xG_silentMinutes, .int xG_toldCount, .long xG_seedNow], oO aP 0 [.int xP_walkers, .int xP_light, .int xP_water, .int xP_nerves, .int xP_kinds], oJ aAC iAC 14 z39.2]) (wn := [oO aG 3 [.ref aT, .ref aP, .ref aW1, .ref aW2, .ref aAC, .int z39.1, .ref aKE, .int xG_heardMinutes, .int xG_silentMinutes, .int xG_toldCount, .long xG_seedNow], oO aP 0 [.int xP_walkers, .int xP_light, .int xP_water, .int xP_nerves, .int xP_kinds], oO aW1 2 [.ref aP, .int z47.1, .int z47.2, .int xW1_place, .int xW1_turned], oJ aAC iAC 14 z39.2]) hC [] (cX3_row_m (kl X) (kD X) aP aW1 z47.1 z47.2 xW1_place xW1_turned z54 hz54) gX4_change_X3_row rfl kyX3_row rfl rfl rfl (q0 := 0) rfl [2] [0, 1, 3] [] [0, 1, 3, 2] rfl rfl rfl rfl (by decide) rfl rfl rfl ⟨rfl, rfl⟩ ⟨Nat.le_of_ble_eq_true rfl, Nat.le_of_ble_eq_true rfl⟩ (Nat.le_of_ble_eq_true rfl) rfl dX4_change_54 ?_
        obtain ⟨z57, hz57, hf⟩ := gd_b hf
        refine g_callSi (wr := [oO aG 3 [.ref aT, .ref aP, .ref aW1, .ref aW2, .ref aAC, .int z39.1, .ref aKE, .int xG_heardMinutes, .int xG_silentMinutes, .int xG_toldCount, .long xG_seedNow], oO aP 0 [.int xP_walkers, .int xP_light, .int xP_water, .int xP_nerves, .int xP_kinds], oO aW1 2 [.ref aP, .int z47.1, .int z47.2, .int xW1_place, .int xW1_turned], oJ aAC iAC 14 z39.2]) (wn := [oO aG 3 [.ref aT, .ref aP, .ref aW1, .ref aW2, .ref aAC, .int z39.1, .ref aKE, .int xG_heardMinutes, .int xG_silentMinutes, .int xG_toldCount, .long xG_seedNow], oO aP 0 [.int xP_walkers, .int xP_light, .int xP_water, .int xP_nerves, .int xP_kinds], oO aW1 2 [.ref aP, .int z47.1, .int z47.2, .int xW1_place, .int xW1_turned], oJ aAC iAC 14 z39.2]) hC [.int z54] (cX0_figures_m (kl X) (kD X) z54 z57 hz57) gX4_change_X0_figures rfl kyX0_figures rfl [] [0, 1, 2, 3] [] [0, 1, 2, 3] rfl rfl rfl rfl (by decide) rfl rfl rfl ⟨rfl, rfl⟩ ⟨Nat.le_of_ble_eq_true rfl, Nat.le_of_ble_eq_true rfl⟩ (Nat.le_of_ble_eq_true rfl) rfl dX4_change_57 ?_
        exact hQ (z57, z39.1, z47.1, z47.2, z39.2) _ _ (gd_s hf) dX4_change_60
      · replace hf := gd_f hc hf
        refine g_bipush (v := (-3 : Int32)) hC dX4_change_35 cb_m3 ?_
        exact hQ ((-3 : Int32), xG_actCount, xW1_row, xW1_quiets, xAC) _ _ (gd_s hf) dX4_change_37
  · replace hf := gd_t hc hf
    refine g_bipush (v := (-2 : Int32)) hC dX4_change_9 cb_m2 ?_
    exact hQ ((-2 : Int32), xG_actCount, xW1_row, xW1_quiets, xAC) _ _ (gd_s hf) dX4_change_11
theorem kyX4_rest : yX4_rest.cls = RX4 ∧ yX4_rest.cls ≠ "java/lang/invoke/MethodHandle" ∧ yX4_rest.cls ≠ "java/lang/invoke/VarHandle" ∧ (parseMethodDescriptor yX4_rest.desc).map (fun d => d.parameters.length) = some 0 := by decide +kernel
set_option maxHeartbeats 4000000 in
set_option maxRecDepth 100000 in
theorem cX4_rest_m (l : Launch) (D : va_G) (aG aT aP aW1 aW2 aAC aKE : Nat) (iAC : ClassId) (xG_actCount : Int32) (xG_heardMinutes : Int32) (xG_silentMinutes : Int32) (xG_toldCount : Int32) (xG_seedNow : Int64) (xP_walkers : Int32) (xP_light : Int32) (xP_water : Int32) (xP_nerves : Int32) (xP_kinds : Int32) (xW1_row : Int32) (xW1_quiets : Int32) (xW1_place : Int32) (xW1_turned : Int32) (xAC : Nat → Int64)  (z : Int32 × Int32 × Int32 × (Nat → Int64)) (hf : fX4_rest xG_actCount xP_light xW1_row xW1_quiets xW1_place xAC = some z) : ∀ sz : Nat, Met l yX4_rest wsX4_rest ({ frames := 4, cells := 0, slots := 0, locals := 84 } : Room) (kPre D [(iAC, .long)] [oO aG 3 [.ref aT, .ref aP, .ref aW1, .ref aW2, .ref aAC, .int xG_actCount, .ref aKE, .int xG_heardMinutes, .int xG_silentMinutes, .int xG_toldCount, .long xG_seedNow], oO aP 0 [.int xP_walkers, .int xP_light, .int xP_water, .int xP_nerves, .int xP_kinds], oO aW1 2 [.ref aP, .int xW1_row, .int xW1_quiets, .int xW1_place, .int xW1_turned], oJ aAC iAC 14 xAC] sz [.ref aG]) (kQi D [(iAC, .long)] [oO aG 3 [.ref aT, .ref aP, .ref aW1, .ref aW2, .ref aAC, .int xG_actCount, .ref aKE, .int xG_heardMinutes, .int xG_silentMinutes, .int xG_toldCount, .long xG_seedNow], oO aP 0 [.int xP_walkers, .int xP_light, .int xP_water, .int xP_nerves, .int xP_kinds], oO aW1 2 [.ref aP, .int xW1_row, .int xW1_quiets, .int xW1_place, .int xW1_turned], oJ aAC iAC 14 xAC] sz [oO aG 3 [.ref aT, .ref aP, .ref aW1, .ref aW2, .ref aAC, .int z.2.1, .ref aKE, .int xG_heardMinutes, .int xG_silentMinutes, .int xG_toldCount, .long xG_seedNow], oO aP 0 [.int xP_walkers, .int xP_light, .int xP_water, .int xP_nerves, .int xP_kinds], oO aW1 2 [.ref aP, .int xW1_row, .int z.2.2.1, .int xW1_place, .int xW1_turned], oJ aAC iAC 14 z.2.2.2] z.1) 0 0 (va_A [oO aG 3 [.ref aT, .ref aP, .ref aW1, .ref aW2, .ref aAC, .int xG_actCount, .ref aKE, .int xG_heardMinutes, .int xG_silentMinutes, .int xG_toldCount, .long xG_seedNow], oO aP 0 [.int xP_walkers, .int xP_light, .int xP_water, .int xP_nerves, .int xP_kinds], oO aW1 2 [.ref aP, .int xW1_row, .int xW1_quiets, .int xW1_place, .int xW1_turned], oJ aAC iAC 14 xAC] sz) := by
  refine kMet_i (own := RX4) z (fun u => u.1) (fun u => [oO aG 3 [.ref aT, .ref aP, .ref aW1, .ref aW2, .ref aAC, .int u.2.1, .ref aKE, .int xG_heardMinutes, .int xG_silentMinutes, .int xG_toldCount, .long xG_seedNow], oO aP 0 [.int xP_walkers, .int xP_light, .int xP_water, .int xP_nerves, .int xP_kinds], oO aW1 2 [.ref aP, .int xW1_row, .int u.2.2.1, .int xW1_place, .int xW1_turned], oJ aAC iAC 14 u.2.2.2]) rfl (by decide) rfl ⟨rfl, rfl⟩ (Nat.le_of_ble_eq_true rfl) ?_
  intro X hXl hXD hC hQ
  subst hXl
  subst hXD
  change kG X 0 [(0, .ref aG)] [] [oO aG 3 [.ref aT, .ref aP, .ref aW1, .ref aW2, .ref aAC, .int xG_actCount, .ref aKE, .int xG_heardMinutes, .int xG_silentMinutes, .int xG_toldCount, .long xG_seedNow], oO aP 0 [.int xP_walkers, .int xP_light, .int xP_water, .int xP_nerves, .int xP_kinds], oO aW1 2 [.ref aP, .int xW1_row, .int xW1_quiets, .int xW1_place, .int xW1_turned], oJ aAC iAC 14 xAC]
  have hinX4 : ∀ w ∈ wsX40, w ∈ wsX4_rest := fun _ h => List.mem_cons_of_mem _ (List.mem_append_left _ (List.mem_append_left _ (List.mem_append_right _ h)))
  unfold fX4_rest at hf
  refine g_aload_n hC 0 dX4_rest_0 rfl rfl ?_
  refine g_get (C := RX4) (T := TX4) (N := 11) (v := .ref aW1) hC hinX4 0 2 rfl rfl (by decide) (List.mem_of_getElem? (i := 1) rfl) rfl dX4_rest_1 ?_
  obtain ⟨z4, hz4, hf⟩ := gd_b hf
  refine g_callVi (wr := [oO aG 3 [.ref aT, .ref aP, .ref aW1, .ref aW2, .ref aAC, .int xG_actCount, .ref aKE, .int xG_heardMinutes, .int xG_silentMinutes, .int xG_toldCount, .long xG_seedNow], oJ aAC iAC 14 xAC]) (wn := [oO aG 3 [.ref aT, .ref aP, .ref aW1, .ref aW2, .ref aAC, .int xG_actCount, .ref aKE, .int xG_heardMinutes, .int xG_silentMinutes, .int xG_toldCount, .long xG_seedNow], oO aP 0 [.int xP_walkers, .int xP_light, .int xP_water, .int xP_nerves, .int xP_kinds], oO aW1 2 [.ref aP, .int xW1_row, .int xW1_quiets, .int xW1_place, .int xW1_turned], oJ aAC iAC 14 xAC]) hC [] (cX3_isOut_m (kl X) (kD X) aP aW1 xP_walkers xP_light xP_water xP_nerves xP_kinds xW1_row xW1_quiets xW1_place xW1_turned z4 hz4) gX4_rest_X3_isOut rfl kyX3_isOut rfl rfl rfl (q0 := 1) rfl [1, 2] [0, 3] [] [0, 2, 3, 1] rfl rfl rfl rfl (by decide) rfl rfl rfl ⟨rfl, rfl⟩ ⟨Nat.le_of_ble_eq_true rfl, Nat.le_of_ble_eq_true rfl⟩ (Nat.le_of_ble_eq_true rfl) rfl dX4_rest_4 ?_
  refine g_if_eq (tgt := 13) hC dX4_rest_7 (by decide) (fun hc => ?_) (fun hc => ?_)
  · replace hf := gd_t hc hf
    refine g_aload_n hC 0 dX4_rest_13 rfl rfl ?_
    obtain ⟨z14, hz14, hf⟩ := gd_b hf
    refine g_callVv (wr := [oO aP 0 [.int xP_walkers, .int xP_light, .int xP_water, .int xP_nerves, .int xP_kinds]]) (wn := [oO aG 3 [.ref aT, .ref aP, .ref aW1, .ref aW2, .ref aAC, .int z14.1, .ref aKE, .int xG_heardMinutes, .int xG_silentMinutes, .int xG_toldCount, .long xG_seedNow], oO aP 0 [.int xP_walkers, .int xP_light, .int xP_water, .int xP_nerves, .int xP_kinds], oO aW1 2 [.ref aP, .int xW1_row, .int xW1_quiets, .int xW1_place, .int xW1_turned], oJ aAC iAC 14 z14.2]) hC [] (cX4_remember_m (kl X) (kD X) aG aT aP aW1 aW2 aAC aKE iAC xG_actCount xG_heardMinutes xG_silentMinutes xG_toldCount xG_seedNow xW1_row xW1_quiets xW1_place xW1_turned xAC z14 hz14) gX4_rest_X4_remember rfl kyX4_remember rfl rfl rfl (q0 := 0) rfl [0, 2, 3] [1] [0] [1, 0, 2, 3] rfl rfl rfl rfl (by decide) rfl rfl rfl ⟨rfl, rfl⟩ ⟨Nat.le_of_ble_eq_true rfl, Nat.le_of_ble_eq_true rfl⟩ (Nat.le_of_ble_eq_true rfl) rfl dX4_rest_14 ?_
    refine g_aload_n hC 0 dX4_rest_17 rfl rfl ?_
    refine g_get (C := RX4) (T := TX4) (N := 11) (v := .ref aW1) hC hinX4 0 2 rfl rfl (by decide) (List.mem_of_getElem? (i := 1) rfl) rfl dX4_rest_18 ?_
    obtain ⟨z21, hz21, hf⟩ := gd_b hf
    refine g_callVi (wr := [oO aG 3 [.ref aT, .ref aP, .ref aW1, .ref aW2, .ref aAC, .int z14.1, .ref aKE, .int xG_heardMinutes, .int xG_silentMinutes, .int xG_toldCount, .long xG_seedNow], oO aP 0 [.int xP_walkers, .int xP_light, .int xP_water, .int xP_nerves, .int xP_kinds], oJ aAC iAC 14 z14.2]) (wn := [oO aG 3 [.ref aT, .ref aP, .ref aW1, .ref aW2, .ref aAC, .int z14.1, .ref aKE, .int xG_heardMinutes, .int xG_silentMinutes, .int xG_toldCount, .long xG_seedNow], oO aP 0 [.int xP_walkers, .int xP_light, .int xP_water, .int xP_nerves, .int xP_kinds], oO aW1 2 [.ref aP, .int xW1_row, .int z21.2, .int xW1_place, .int xW1_turned], oJ aAC iAC 14 z14.2]) hC [] (cX3_calm_m (kl X) (kD X) aP aW1 xW1_row xW1_quiets xW1_place xW1_turned z21 hz21) gX4_rest_X3_calm rfl kyX3_calm rfl rfl rfl (q0 := 0) rfl [2] [0, 1, 3] [] [0, 1, 3, 2] rfl rfl rfl rfl (by decide) rfl rfl rfl ⟨rfl, rfl⟩ ⟨Nat.le_of_ble_eq_true rfl, Nat.le_of_ble_eq_true rfl⟩ (Nat.le_of_ble_eq_true rfl) rfl dX4_rest_21 ?_
    exact hQ (z21.1, z14.1, z21.2, z14.2) _ _ (gd_s hf) dX4_rest_24
  · replace hf := gd_f hc hf
    refine g_bipush (v := (-3 : Int32)) hC dX4_rest_10 cb_m3 ?_
    exact hQ ((-3 : Int32), xG_actCount, xW1_quiets, xAC) _ _ (gd_s hf) dX4_rest_12
theorem kyX4_undo : yX4_undo.cls = RX4 ∧ yX4_undo.cls ≠ "java/lang/invoke/MethodHandle" ∧ yX4_undo.cls ≠ "java/lang/invoke/VarHandle" ∧ (parseMethodDescriptor yX4_undo.desc).map (fun d => d.parameters.length) = some 0 := by decide +kernel
set_option maxHeartbeats 4000000 in
set_option maxRecDepth 100000 in
theorem cX4_undo_m (l : Launch) (D : va_G) (aG aT aP aW1 aW2 aAC aKE : Nat) (iAC : ClassId) (xG_actCount : Int32) (xG_heardMinutes : Int32) (xG_silentMinutes : Int32) (xG_toldCount : Int32) (xG_seedNow : Int64) (xW1_row : Int32) (xW1_quiets : Int32) (xW1_place : Int32) (xW1_turned : Int32) (xAC : Nat → Int64)  (z : Int32 × Int32 × Int32 × Int32 × Int32) (hf : fX4_undo xG_actCount xW1_row xW1_quiets xW1_place xAC = some z) : ∀ sz : Nat, Met l yX4_undo wsX4_undo ({ frames := 1, cells := 0, slots := 0, locals := 22 } : Room) (kPre D [(iAC, .long)] [oO aG 3 [.ref aT, .ref aP, .ref aW1, .ref aW2, .ref aAC, .int xG_actCount, .ref aKE, .int xG_heardMinutes, .int xG_silentMinutes, .int xG_toldCount, .long xG_seedNow], oO aW1 2 [.ref aP, .int xW1_row, .int xW1_quiets, .int xW1_place, .int xW1_turned], oJ aAC iAC 14 xAC] sz [.ref aG]) (kQi D [(iAC, .long)] [oO aG 3 [.ref aT, .ref aP, .ref aW1, .ref aW2, .ref aAC, .int xG_actCount, .ref aKE, .int xG_heardMinutes, .int xG_silentMinutes, .int xG_toldCount, .long xG_seedNow], oO aW1 2 [.ref aP, .int xW1_row, .int xW1_quiets, .int xW1_place, .int xW1_turned], oJ aAC iAC 14 xAC] sz [oO aG 3 [.ref aT, .ref aP, .ref aW1, .ref aW2, .ref aAC, .int z.2.1, .ref aKE, .int xG_heardMinutes, .int xG_silentMinutes, .int xG_toldCount, .long xG_seedNow], oO aW1 2 [.ref aP, .int z.2.2.1, .int z.2.2.2.1, .int z.2.2.2.2, .int xW1_turned], oJ aAC iAC 14 xAC] z.1) 0 0 (va_A [oO aG 3 [.ref aT, .ref aP, .ref aW1, .ref aW2, .ref aAC, .int xG_actCount, .ref aKE, .int xG_heardMinutes, .int xG_silentMinutes, .int xG_toldCount, .long xG_seedNow], oO aW1 2 [.ref aP, .int xW1_row, .int xW1_quiets, .int xW1_place, .int xW1_turned], oJ aAC iAC 14 xAC] sz) := by
  refine kMet_i (own := RX4) z (fun u => u.1) (fun u => [oO aG 3 [.ref aT, .ref aP, .ref aW1, .ref aW2, .ref aAC, .int u.2.1, .ref aKE, .int xG_heardMinutes, .int xG_silentMinutes, .int xG_toldCount, .long xG_seedNow], oO aW1 2 [.ref aP, .int u.2.2.1, .int u.2.2.2.1, .int u.2.2.2.2, .int xW1_turned], oJ aAC iAC 14 xAC]) rfl (by decide) rfl ⟨rfl, rfl⟩ (Nat.le_of_ble_eq_true rfl) ?_
  intro X hXl hXD hC hQ
  subst hXl
  subst hXD
  change kG X 0 [(0, .ref aG)] [] [oO aG 3 [.ref aT, .ref aP, .ref aW1, .ref aW2, .ref aAC, .int xG_actCount, .ref aKE, .int xG_heardMinutes, .int xG_silentMinutes, .int xG_toldCount, .long xG_seedNow], oO aW1 2 [.ref aP, .int xW1_row, .int xW1_quiets, .int xW1_place, .int xW1_turned], oJ aAC iAC 14 xAC]
  have hinX4 : ∀ w ∈ wsX40, w ∈ wsX4_undo := fun _ h => List.mem_cons_of_mem _ (List.mem_append_left _ (List.mem_append_right _ h))
  unfold fX4_undo at hf
  refine g_aload_n hC 0 dX4_undo_0 rfl rfl ?_
  refine g_get (C := RX4) (T := TX4) (N := 11) (v := .int xG_actCount) hC hinX4 0 5 rfl rfl (by decide) (List.mem_of_getElem? (i := 1) rfl) rfl dX4_undo_1 ?_
  refine g_iconst (v := (1 : Int32)) hC dX4_undo_4 ci_1 ?_
  refine g_aload_n hC 0 dX4_undo_5 rfl rfl ?_
  refine g_get (C := RX4) (T := TX4) (N := 11) (v := .ref aAC) hC hinX4 0 4 rfl rfl (by decide) (List.mem_of_getElem? (i := 2) rfl) rfl dX4_undo_6 ?_
  refine g_alen (v := (14 : Int32)) hC 2 0 rfl rfl cn_14 dX4_undo_9 ?_
  obtain ⟨z10, hz10, hf⟩ := gd_b hf
  refine g_callSi (wr := [oO aG 3 [.ref aT, .ref aP, .ref aW1, .ref aW2, .ref aAC, .int xG_actCount, .ref aKE, .int xG_heardMinutes, .int xG_silentMinutes, .int xG_toldCount, .long xG_seedNow], oO aW1 2 [.ref aP, .int xW1_row, .int xW1_quiets, .int xW1_place, .int xW1_turned], oJ aAC iAC 14 xAC]) (wn := [oO aG 3 [.ref aT, .ref aP, .ref aW1, .ref aW2, .ref aAC, .int xG_actCount, .ref aKE, .int xG_heardMinutes, .int xG_silentMinutes, .int xG_toldCount, .long xG_seedNow], oO aW1 2 [.ref aP, .int xW1_row, .int xW1_quiets, .int xW1_place, .int xW1_turned], oJ aAC iAC 14 xAC]) hC [.int xG_actCount, .int (1 : Int32), .int (14 : Int32)] (cX4_within_m (kl X) (kD X) xG_actCount (1 : Int32) (14 : Int32) z10 hz10) gX4_undo_X4_within rfl kyX4_within rfl [] [0, 1, 2] [] [0, 1, 2] rfl rfl rfl rfl (by decide) rfl rfl rfl ⟨rfl, rfl⟩ ⟨Nat.le_of_ble_eq_true rfl, Nat.le_of_ble_eq_true rfl⟩ (Nat.le_of_ble_eq_true rfl) rfl dX4_undo_10 ?_
  refine g_if_ne (tgt := 19) hC dX4_undo_13 (by decide) (fun hc => ?_) (fun hc => ?_)
  · replace hf := gd_f hc hf
    refine g_aload_n hC 0 dX4_undo_19 rfl rfl ?_
    refine g_dup hC dX4_undo_20 rfl ?_
    refine g_get (C := RX4) (T := TX4) (N := 11) (v := .int xG_actCount) hC hinX4 0 5 rfl rfl (by decide) (List.mem_of_getElem? (i := 1) rfl) rfl dX4_undo_21 ?_
    refine g_iconst (v := (1 : Int32)) hC dX4_undo_24 ci_1 ?_
    refine g_isub hC dX4_undo_25 ?_
    refine g_put (C := RX4) (T := TX4) (N := 11) (ty := .int) (ws' := [oO aG 3 [.ref aT, .ref aP, .ref aW1, .ref aW2, .ref aAC, .int (xG_actCount - (1 : Int32)), .ref aKE, .int xG_heardMinutes, .int xG_silentMinutes, .int xG_toldCount, .long xG_seedNow], oO aW1 2 [.ref aP, .int xW1_row, .int xW1_quiets, .int xW1_place, .int xW1_turned], oJ aAC iAC 14 xAC]) hC tyX4_ok nmX4 hinX4 0 5 rfl rfl (by decide) (List.mem_of_getElem? (i := 1) rfl) rfl rfl rfl rfl (Nat.le_of_ble_eq_true rfl) dX4_undo_26 rfl ?_
    refine g_aload_n hC 0 dX4_undo_29 rfl rfl ?_
    refine g_get (C := RX4) (T := TX4) (N := 11) (v := .ref aW1) hC hinX4 0 2 rfl rfl (by decide) (List.mem_of_getElem? (i := 3) rfl) rfl dX4_undo_30 ?_
    refine g_aload_n hC 0 dX4_undo_33 rfl rfl ?_
    refine g_get (C := RX4) (T := TX4) (N := 11) (v := .ref aAC) hC hinX4 0 4 rfl rfl (by decide) (List.mem_of_getElem? (i := 2) rfl) rfl dX4_undo_34 ?_
    refine g_aload_n hC 0 dX4_undo_37 rfl rfl ?_
    refine g_get (C := RX4) (T := TX4) (N := 11) (v := .int (xG_actCount - (1 : Int32))) hC hinX4 0 5 rfl rfl (by decide) (List.mem_of_getElem? (i := 1) rfl) rfl dX4_undo_38 ?_
    obtain ⟨hg, hf⟩ := gd_ga hf
    refine g_lald hC 2 0 hg rfl rfl dX4_undo_41 ?_
    obtain ⟨z42, hz42, hf⟩ := gd_b hf
    refine g_callVv (wr := [oO aG 3 [.ref aT, .ref aP, .ref aW1, .ref aW2, .ref aAC, .int (xG_actCount - (1 : Int32)), .ref aKE, .int xG_heardMinutes, .int xG_silentMinutes, .int xG_toldCount, .long xG_seedNow], oJ aAC iAC 14 xAC]) (wn := [oO aG 3 [.ref aT, .ref aP, .ref aW1, .ref aW2, .ref aAC, .int (xG_actCount - (1 : Int32)), .ref aKE, .int xG_heardMinutes, .int xG_silentMinutes, .int xG_toldCount, .long xG_seedNow], oO aW1 2 [.ref aP, .int z42.1, .int z42.2.1, .int z42.2.2, .int xW1_turned], oJ aAC iAC 14 xAC]) hC [.long (xAC (xG_actCount - (1 : Int32)).toNatClampNeg)] (cX3_become_m (kl X) (kD X) aP aW1 xW1_row xW1_quiets xW1_place xW1_turned (xAC (xG_actCount - (1 : Int32)).toNatClampNeg) z42 hz42) gX4_undo_X3_become rfl kyX3_become rfl rfl rfl (q0 := 0) rfl [1] [0, 2] [] [0, 2, 1] rfl rfl rfl rfl (by decide) rfl rfl rfl ⟨rfl, rfl⟩ ⟨Nat.le_of_ble_eq_true rfl, Nat.le_of_ble_eq_true rfl⟩ (Nat.le_of_ble_eq_true rfl) rfl dX4_undo_42 ?_
    refine g_aload_n hC 0 dX4_undo_45 rfl rfl ?_
    refine g_get (C := RX4) (T := TX4) (N := 11) (v := .int (xG_actCount - (1 : Int32))) hC hinX4 0 5 rfl rfl (by decide) (List.mem_of_getElem? (i := 1) rfl) rfl dX4_undo_46 ?_
    exact hQ ((xG_actCount - (1 : Int32)), (xG_actCount - (1 : Int32)), z42.1, z42.2.1, z42.2.2) _ _ (gd_s hf) dX4_undo_49
  · replace hf := gd_t hc hf
    refine g_bipush (v := (-3 : Int32)) hC dX4_undo_16 cb_m3 ?_
    exact hQ ((-3 : Int32), xG_actCount, xW1_row, xW1_quiets, xW1_place) _ _ (gd_s hf) dX4_undo_18
theorem kyX4_isSong : yX4_isSong.cls ≠ "java/lang/invoke/MethodHandle" ∧ yX4_isSong.cls ≠ "java/lang/invoke/VarHandle" ∧ (parseMethodDescriptor yX4_isSong.desc).map (fun d => d.parameters.length) = some 2 := by decide +kernel
set_option maxHeartbeats 4000000 in
set_option maxRecDepth 100000 in
theorem cX4_isSong_m (l : Launch) (D : va_G)  (j0 : Int32) (j1 : Int64) (z : Int32) (hf : fX4_isSong j0 j1 = some z) : ∀ sz : Nat, Met l yX4_isSong wsX4_isSong ({ frames := 1, cells := 0, slots := 0, locals := 22 } : Room) (kPre D [] [] sz [.int j0, .long j1]) (kQi D [] [] sz [] z) 0 0 (va_A [] sz) := by
  refine kMet_z (own := RX4) z (fun u => u) (fun u => []) rfl (by decide) rfl ⟨rfl, rfl⟩ (Nat.le_of_ble_eq_true rfl) ?_
  intro X hXl hXD hC hQ
  subst hXl
  subst hXD
  change kG X 0 [(0, .int j0), (1, .long j1)] [] []
  have t22 : ∀  (n : Nat) (j0 : Int32) (j3 : Int64) (j5 : Int32), lp (fun _ _ _ => none) (fX4_isSong_b22_S ) n j0 j3 j5 = some z → kG X 22 [(0, .int j0), (3, .long j3), (5, .int j5)] [] [] := by
    intro  n
    induction n with
    | zero => intro j0 j3 j5 hf; cases hf
    | succ n hk22 =>
      intro j0 j3 j5 hf
      rw [lp_s] at hf
      revert hf hk22
      generalize lp (fun _ _ _ => none) (fX4_isSong_b22_S ) n = k22
      intro hk22 hf
      unfold fX4_isSong_b22_S at hf
      refine g_iload hC 2 dX4_isSong_22 rfl ?_
      refine g_iload_n hC 0 dX4_isSong_24 rfl rfl ?_
      refine g_icmp_ge (tgt := 54) hC dX4_isSong_25 (by decide) (fun hc => ?_) (fun hc => ?_)
      · replace hf := gd_t hc hf
        refine g_lload_n hC 1 dX4_isSong_54 rfl rfl ?_
        refine g_lconst (v := (0 : Int64)) hC dX4_isSong_55 rfl ?_
        refine g_lcmp hC dX4_isSong_56 ?_
        refine g_if_ne (tgt := 64) hC dX4_isSong_57 (by decide) (fun hc => ?_) (fun hc => ?_)
        · replace hf := gd_f hc hf
          refine g_iconst (v := (0 : Int32)) hC dX4_isSong_64 ci_0 ?_
          exact hQ ((0 : Int32)) _ _ (gd_s hf) (nz_of (Or.inl rfl)) dX4_isSong_65
        · replace hf := gd_t hc hf
          refine g_iconst (v := (1 : Int32)) hC dX4_isSong_60 ci_1 ?_
          refine g_goto (tgt := 65) hC dX4_isSong_61 (by decide) ?_
          exact hQ ((1 : Int32)) _ _ (gd_s hf) (nz_of (Or.inr rfl)) dX4_isSong_65
      · replace hf := gd_f hc hf
        refine g_lload_n hC 1 dX4_isSong_28 rfl rfl ?_
        refine g_ldc2 (v := (100 : Int64)) hC dX4_isSong_29 (List.mem_of_getElem? (i := 1) rfl) ?_
        refine g_lrem hC dX4_isSong_32 (by decide) ?_
        refine g_ldc2 (v := (31 : Int64)) hC dX4_isSong_33 (List.mem_of_getElem? (i := 2) rfl) ?_
        refine g_lcmp hC dX4_isSong_36 ?_
        refine g_if_le (tgt := 42) hC dX4_isSong_37 (by decide) (fun hc => ?_) (fun hc => ?_)
        · replace hf := gd_t hc hf
          refine g_lload_n hC 1 dX4_isSong_42 rfl rfl ?_
          refine g_ldc2 (v := (100 : Int64)) hC dX4_isSong_43 (List.mem_of_getElem? (i := 1) rfl) ?_
          refine g_ldiv hC dX4_isSong_46 (by decide) ?_
          refine g_lstore_n (lv' := [(3, .long (j3 / (100 : Int64))), (0, .int j0), (5, .int j5)]) hC dX4_isSong_47 rfl (by decide) rfl ?_
          refine g_iinc (v := (j5 + (1 : Int32))) (lv' := [(5, .int (j5 + (1 : Int32))), (3, .long (j3 / (100 : Int64))), (0, .int j0)]) hC 2 dX4_isSong_48 rfl (ii _ ci_1) (by decide) rfl ?_
          refine g_goto (tgt := 22) hC dX4_isSong_51 (by decide) ?_
          refine g_lv (lv' := [(0, .int j0), (3, .long (j3 / (100 : Int64))), (5, .int (j5 + (1 : Int32)))]) [2, 1, 0] rfl ?_
          exact hk22 j0 (j3 / (100 : Int64)) (j5 + (1 : Int32)) hf
        · replace hf := gd_f hc hf
          refine g_iconst (v := (0 : Int32)) hC dX4_isSong_40 ci_0 ?_
          exact hQ ((0 : Int32)) _ _ (gd_s hf) (nz_of (Or.inl rfl)) dX4_isSong_41
  unfold fX4_isSong at hf
  refine g_iload_n hC 0 dX4_isSong_0 rfl rfl ?_
  refine g_iconst (v := (1 : Int32)) hC dX4_isSong_1 ci_1 ?_
  refine g_iconst (v := (5 : Int32)) hC dX4_isSong_2 ci_5 ?_
  obtain ⟨z3, hz3, hf⟩ := gd_b hf
  refine g_callSi (wr := []) (wn := []) hC [.int j0, .int (1 : Int32), .int (5 : Int32)] (cX4_within_m (kl X) (kD X) j0 (1 : Int32) (5 : Int32) z3 hz3) gX4_isSong_X4_within rfl kyX4_within rfl [] [] [] [] rfl rfl rfl rfl (by decide) rfl rfl rfl ⟨rfl, rfl⟩ ⟨Nat.le_of_ble_eq_true rfl, Nat.le_of_ble_eq_true rfl⟩ (Nat.le_of_ble_eq_true rfl) rfl dX4_isSong_3 ?_
  refine g_if_eq (tgt := 15) hC dX4_isSong_6 (by decide) (fun hc => ?_) (fun hc => ?_)
  · replace hf := gd_t hc hf
    refine g_iconst (v := (0 : Int32)) hC dX4_isSong_15 ci_0 ?_
    exact hQ ((0 : Int32)) _ _ (gd_s hf) (nz_of (Or.inl rfl)) dX4_isSong_16
  · replace hf := gd_f hc hf
    refine g_lload_n hC 1 dX4_isSong_9 rfl rfl ?_
    refine g_lconst (v := (0 : Int64)) hC dX4_isSong_10 rfl ?_
    refine g_lcmp hC dX4_isSong_11 ?_
    refine g_if_ge (tgt := 17) hC dX4_isSong_12 (by decide) (fun hc => ?_) (fun hc => ?_)
    · replace hf := gd_t hc hf
      refine g_lload_n hC 1 dX4_isSong_17 rfl rfl ?_
      refine g_lstore_n (lv' := [(3, .long j1), (0, .int j0), (1, .long j1)]) hC dX4_isSong_18 rfl (by decide) rfl ?_
      refine g_iconst (v := (0 : Int32)) hC dX4_isSong_19 ci_0 ?_
      refine g_istore (lv' := [(5, .int (0 : Int32)), (3, .long j1), (0, .int j0), (1, .long j1)]) hC dX4_isSong_20 (by decide) rfl ?_
      refine g_lv (lv' := [(0, .int j0), (3, .long j1), (5, .int (0 : Int32))]) [2, 1, 0] rfl ?_
      exact t22  fu j0 j1 (0 : Int32) hf
    · replace hf := gd_f hc hf
      refine g_iconst (v := (0 : Int32)) hC dX4_isSong_15 ci_0 ?_
      exact hQ ((0 : Int32)) _ _ (gd_s hf) (nz_of (Or.inl rfl)) dX4_isSong_16
theorem kyX4_left : yX4_left.cls = RX4 ∧ yX4_left.cls ≠ "java/lang/invoke/MethodHandle" ∧ yX4_left.cls ≠ "java/lang/invoke/VarHandle" ∧ (parseMethodDescriptor yX4_left.desc).map (fun d => d.parameters.length) = some 2 := by decide +kernel
set_option maxHeartbeats 4000000 in
set_option maxRecDepth 100000 in
theorem cX4_left_m (l : Launch) (D : va_G) (aG aT aP aW1 aW2 aAC aKE : Nat) (xG_actCount : Int32) (xG_heardMinutes : Int32) (xG_silentMinutes : Int32) (xG_toldCount : Int32) (xG_seedNow : Int64) (xP_walkers : Int32) (xP_light : Int32) (xP_water : Int32) (xP_nerves : Int32) (xP_kinds : Int32) (xW1_row : Int32) (xW1_quiets : Int32) (xW1_place : Int32) (xW1_turned : Int32) (xW2_row : Int32) (xW2_quiets : Int32) (xW2_place : Int32) (xW2_turned : Int32) (j1 : Int32) (j2 : Int64) (z : Int32 × Int32 × Int32 × Int32 × Int32) (hf : fX4_left j1 j2 xP_light xP_water xP_nerves xP_kinds xW1_row xW1_quiets xW1_place xW2_row xW2_quiets xW2_place xW2_turned = some z) : ∀ sz : Nat, Met l yX4_left wsX4_left ({ frames := 5, cells := 0, slots := 0, locals := 117 } : Room) (kPre D [] [oO aG 3 [.ref aT, .ref aP, .ref aW1, .ref aW2, .ref aAC, .int xG_actCount, .ref aKE, .int xG_heardMinutes, .int xG_silentMinutes, .int xG_toldCount, .long xG_seedNow], oO aP 0 [.int xP_walkers, .int xP_light, .int xP_water, .int xP_nerves, .int xP_kinds], oO aW1 2 [.ref aP, .int xW1_row, .int xW1_quiets, .int xW1_place, .int xW1_turned], oO aW2 2 [.ref aP, .int xW2_row, .int xW2_quiets, .int xW2_place, .int xW2_turned]] sz [.ref aG, .int j1, .long j2]) (kQi D [] [oO aG 3 [.ref aT, .ref aP, .ref aW1, .ref aW2, .ref aAC, .int xG_actCount, .ref aKE, .int xG_heardMinutes, .int xG_silentMinutes, .int xG_toldCount, .long xG_seedNow], oO aP 0 [.int xP_walkers, .int xP_light, .int xP_water, .int xP_nerves, .int xP_kinds], oO aW1 2 [.ref aP, .int xW1_row, .int xW1_quiets, .int xW1_place, .int xW1_turned], oO aW2 2 [.ref aP, .int xW2_row, .int xW2_quiets, .int xW2_place, .int xW2_turned]] sz [oO aG 3 [.ref aT, .ref aP, .ref aW1, .ref aW2, .ref aAC, .int xG_actCount, .ref aKE, .int xG_heardMinutes, .int xG_silentMinutes, .int xG_toldCount, .long xG_seedNow], oO aP 0 [.int xP_walkers, .int xP_light, .int xP_water, .int xP_nerves, .int xP_kinds], oO aW1 2 [.ref aP, .int xW1_row, .int xW1_quiets, .int xW1_place, .int xW1_turned], oO aW2 2 [.ref aP, .int z.2.1, .int z.2.2.1, .int z.2.2.2.1, .int z.2.2.2.2]] z.1) 0 0 (va_A [oO aG 3 [.ref aT, .ref aP, .ref aW1, .ref aW2, .ref aAC, .int xG_actCount, .ref aKE, .int xG_heardMinutes, .int xG_silentMinutes, .int xG_toldCount, .long xG_seedNow], oO aP 0 [.int xP_walkers, .int xP_light, .int xP_water, .int xP_nerves, .int xP_kinds], oO aW1 2 [.ref aP, .int xW1_row, .int xW1_quiets, .int xW1_place, .int xW1_turned], oO aW2 2 [.ref aP, .int xW2_row, .int xW2_quiets, .int xW2_place, .int xW2_turned]] sz) := by
  refine kMet_i (own := RX4) z (fun u => u.1) (fun u => [oO aG 3 [.ref aT, .ref aP, .ref aW1, .ref aW2, .ref aAC, .int xG_actCount, .ref aKE, .int xG_heardMinutes, .int xG_silentMinutes, .int xG_toldCount, .long xG_seedNow], oO aP 0 [.int xP_walkers, .int xP_light, .int xP_water, .int xP_nerves, .int xP_kinds], oO aW1 2 [.ref aP, .int xW1_row, .int xW1_quiets, .int xW1_place, .int xW1_turned], oO aW2 2 [.ref aP, .int u.2.1, .int u.2.2.1, .int u.2.2.2.1, .int u.2.2.2.2]]) rfl (by decide) rfl ⟨rfl, rfl⟩ (Nat.le_of_ble_eq_true rfl) ?_
  intro X hXl hXD hC hQ
  subst hXl
  subst hXD
  change kG X 0 [(0, .ref aG), (1, .int j1), (2, .long j2)] [] [oO aG 3 [.ref aT, .ref aP, .ref aW1, .ref aW2, .ref aAC, .int xG_actCount, .ref aKE, .int xG_heardMinutes, .int xG_silentMinutes, .int xG_toldCount, .long xG_seedNow], oO aP 0 [.int xP_walkers, .int xP_light, .int xP_water, .int xP_nerves, .int xP_kinds], oO aW1 2 [.ref aP, .int xW1_row, .int xW1_quiets, .int xW1_place, .int xW1_turned], oO aW2 2 [.ref aP, .int xW2_row, .int xW2_quiets, .int xW2_place, .int xW2_turned]]
  have hinX4 : ∀ w ∈ wsX40, w ∈ wsX4_left := fun _ h => List.mem_cons_of_mem _ (List.mem_append_left _ (List.mem_append_left _ (List.mem_append_right _ h)))
  unfold fX4_left at hf
  refine g_iload_n hC 1 dX4_left_0 rfl rfl ?_
  refine g_lload_n hC 2 dX4_left_1 rfl rfl ?_
  obtain ⟨z2, hz2, hf⟩ := gd_b hf
  refine g_callSi (wr := [oO aG 3 [.ref aT, .ref aP, .ref aW1, .ref aW2, .ref aAC, .int xG_actCount, .ref aKE, .int xG_heardMinutes, .int xG_silentMinutes, .int xG_toldCount, .long xG_seedNow], oO aP 0 [.int xP_walkers, .int xP_light, .int xP_water, .int xP_nerves, .int xP_kinds], oO aW1 2 [.ref aP, .int xW1_row, .int xW1_quiets, .int xW1_place, .int xW1_turned], oO aW2 2 [.ref aP, .int xW2_row, .int xW2_quiets, .int xW2_place, .int xW2_turned]]) (wn := [oO aG 3 [.ref aT, .ref aP, .ref aW1, .ref aW2, .ref aAC, .int xG_actCount, .ref aKE, .int xG_heardMinutes, .int xG_silentMinutes, .int xG_toldCount, .long xG_seedNow], oO aP 0 [.int xP_walkers, .int xP_light, .int xP_water, .int xP_nerves, .int xP_kinds], oO aW1 2 [.ref aP, .int xW1_row, .int xW1_quiets, .int xW1_place, .int xW1_turned], oO aW2 2 [.ref aP, .int xW2_row, .int xW2_quiets, .int xW2_place, .int xW2_turned]]) hC [.int j1, .long j2] (cX4_isSong_m (kl X) (kD X) j1 j2 z2 hz2) gX4_left_X4_isSong rfl kyX4_isSong rfl [] [0, 1, 2, 3] [] [0, 1, 2, 3] rfl rfl rfl rfl (by decide) rfl rfl rfl ⟨rfl, rfl⟩ ⟨Nat.le_of_ble_eq_true rfl, Nat.le_of_ble_eq_true rfl⟩ (Nat.le_of_ble_eq_true rfl) rfl dX4_left_2 ?_
  refine g_if_ne (tgt := 11) hC dX4_left_5 (by decide) (fun hc => ?_) (fun hc => ?_)
  · replace hf := gd_f hc hf
    refine g_aload_n hC 0 dX4_left_11 rfl rfl ?_
    refine g_get (C := RX4) (T := TX4) (N := 11) (v := .ref aW2) hC hinX4 0 3 rfl rfl (by decide) (List.mem_of_getElem? (i := 1) rfl) rfl dX4_left_12 ?_
    refine g_aload_n hC 0 dX4_left_15 rfl rfl ?_
    refine g_get (C := RX4) (T := TX4) (N := 11) (v := .ref aW1) hC hinX4 0 2 rfl rfl (by decide) (List.mem_of_getElem? (i := 2) rfl) rfl dX4_left_16 ?_
    obtain ⟨z19, hz19, hf⟩ := gd_b hf
    refine g_callVl (wr := [oO aG 3 [.ref aT, .ref aP, .ref aW1, .ref aW2, .ref aAC, .int xG_actCount, .ref aKE, .int xG_heardMinutes, .int xG_silentMinutes, .int xG_toldCount, .long xG_seedNow], oO aP 0 [.int xP_walkers, .int xP_light, .int xP_water, .int xP_nerves, .int xP_kinds], oO aW2 2 [.ref aP, .int xW2_row, .int xW2_quiets, .int xW2_place, .int xW2_turned]]) (wn := [oO aG 3 [.ref aT, .ref aP, .ref aW1, .ref aW2, .ref aAC, .int xG_actCount, .ref aKE, .int xG_heardMinutes, .int xG_silentMinutes, .int xG_toldCount, .long xG_seedNow], oO aP 0 [.int xP_walkers, .int xP_light, .int xP_water, .int xP_nerves, .int xP_kinds], oO aW1 2 [.ref aP, .int xW1_row, .int xW1_quiets, .int xW1_place, .int xW1_turned], oO aW2 2 [.ref aP, .int xW2_row, .int xW2_quiets, .int xW2_place, .int xW2_turned]]) hC [] (cX3_state_m (kl X) (kD X) aP aW1 xW1_row xW1_quiets xW1_place xW1_turned z19 hz19) gX4_left_X3_state rfl kyX3_state rfl rfl rfl (q0 := 0) rfl [2] [0, 1, 3] [] [0, 1, 3, 2] rfl rfl rfl rfl (by decide) rfl rfl rfl ⟨rfl, rfl⟩ ⟨Nat.le_of_ble_eq_true rfl, Nat.le_of_ble_eq_true rfl⟩ (Nat.le_of_ble_eq_true rfl) rfl dX4_left_19 ?_
    obtain ⟨z22, hz22, hf⟩ := gd_b hf
    refine g_callVv (wr := [oO aG 3 [.ref aT, .ref aP, .ref aW1, .ref aW2, .ref aAC, .int xG_actCount, .ref aKE, .int xG_heardMinutes, .int xG_silentMinutes, .int xG_toldCount, .long xG_seedNow], oO aP 0 [.int xP_walkers, .int xP_light, .int xP_water, .int xP_nerves, .int xP_kinds], oO aW1 2 [.ref aP, .int xW1_row, .int xW1_quiets, .int xW1_place, .int xW1_turned]]) (wn := [oO aG 3 [.ref aT, .ref aP, .ref aW1, .ref aW2, .ref aAC, .int xG_actCount, .ref aKE, .int xG_heardMinutes, .int xG_silentMinutes, .int xG_toldCount, .long xG_seedNow], oO aP 0 [.int xP_walkers, .int xP_light, .int xP_water, .int xP_nerves, .int xP_kinds], oO aW1 2 [.ref aP, .int xW1_row, .int xW1_quiets, .int xW1_place, .int xW1_turned], oO aW2 2 [.ref aP, .int z22.1, .int z22.2.1, .int z22.2.2, .int xW2_turned]]) hC [.long z19] (cX3_become_m (kl X) (kD X) aP aW2 xW2_row xW2_quiets xW2_place xW2_turned z19 z22 hz22) gX4_left_X3_become rfl kyX3_become rfl rfl rfl (q0 := 0) rfl [3] [0, 1, 2] [] [0, 1, 2, 3] rfl rfl rfl rfl (by decide) rfl rfl rfl ⟨rfl, rfl⟩ ⟨Nat.le_of_ble_eq_true rfl, Nat.le_of_ble_eq_true rfl⟩ (Nat.le_of_ble_eq_true rfl) rfl dX4_left_22 ?_
    refine g_aload_n hC 0 dX4_left_25 rfl rfl ?_
    refine g_get (C := RX4) (T := TX4) (N := 11) (v := .ref aW2) hC hinX4 0 3 rfl rfl (by decide) (List.mem_of_getElem? (i := 1) rfl) rfl dX4_left_26 ?_
    refine g_iload_n hC 1 dX4_left_29 rfl rfl ?_
    refine g_lload_n hC 2 dX4_left_30 rfl rfl ?_
    obtain ⟨z31, hz31, hf⟩ := gd_b hf
    refine g_callVi (wr := [oO aG 3 [.ref aT, .ref aP, .ref aW1, .ref aW2, .ref aAC, .int xG_actCount, .ref aKE, .int xG_heardMinutes, .int xG_silentMinutes, .int xG_toldCount, .long xG_seedNow], oO aW1 2 [.ref aP, .int xW1_row, .int xW1_quiets, .int xW1_place, .int xW1_turned]]) (wn := [oO aG 3 [.ref aT, .ref aP, .ref aW1, .ref aW2, .ref aAC, .int xG_actCount, .ref aKE, .int xG_heardMinutes, .int xG_silentMinutes, .int xG_toldCount, .long xG_seedNow], oO aP 0 [.int xP_walkers, .int xP_light, .int xP_water, .int xP_nerves, .int xP_kinds], oO aW1 2 [.ref aP, .int xW1_row, .int xW1_quiets, .int xW1_place, .int xW1_turned], oO aW2 2 [.ref aP, .int z31.2.1, .int z31.2.2.1, .int z31.2.2.2.1, .int z31.2.2.2.2]]) hC [.int j1, .long j2] (cX3_sing_m (kl X) (kD X) aP aW2 xP_walkers xP_light xP_water xP_nerves xP_kinds z22.1 z22.2.1 z22.2.2 xW2_turned j1 j2 z31 hz31) gX4_left_X3_sing rfl kyX3_sing rfl rfl rfl (q0 := 1) rfl [1, 3] [0, 2] [] [0, 2, 1, 3] rfl rfl rfl rfl (by decide) rfl rfl rfl ⟨rfl, rfl⟩ ⟨Nat.le_of_ble_eq_true rfl, Nat.le_of_ble_eq_true rfl⟩ (Nat.le_of_ble_eq_true rfl) rfl dX4_left_31 ?_
    refine g_pop hC dX4_left_34 rfl ?_
    refine g_aload_n hC 0 dX4_left_35 rfl rfl ?_
    refine g_get (C := RX4) (T := TX4) (N := 11) (v := .ref aW2) hC hinX4 0 3 rfl rfl (by decide) (List.mem_of_getElem? (i := 1) rfl) rfl dX4_left_36 ?_
    obtain ⟨z39, hz39, hf⟩ := gd_b hf
    refine g_callVi (wr := [oO aG 3 [.ref aT, .ref aP, .ref aW1, .ref aW2, .ref aAC, .int xG_actCount, .ref aKE, .int xG_heardMinutes, .int xG_silentMinutes, .int xG_toldCount, .long xG_seedNow], oO aP 0 [.int xP_walkers, .int xP_light, .int xP_water, .int xP_nerves, .int xP_kinds], oO aW1 2 [.ref aP, .int xW1_row, .int xW1_quiets, .int xW1_place, .int xW1_turned]]) (wn := [oO aG 3 [.ref aT, .ref aP, .ref aW1, .ref aW2, .ref aAC, .int xG_actCount, .ref aKE, .int xG_heardMinutes, .int xG_silentMinutes, .int xG_toldCount, .long xG_seedNow], oO aP 0 [.int xP_walkers, .int xP_light, .int xP_water, .int xP_nerves, .int xP_kinds], oO aW1 2 [.ref aP, .int xW1_row, .int xW1_quiets, .int xW1_place, .int xW1_turned], oO aW2 2 [.ref aP, .int z31.2.1, .int z31.2.2.1, .int z31.2.2.2.1, .int z31.2.2.2.2]]) hC [] (cX3_members_m (kl X) (kD X) aP aW2 z31.2.1 z31.2.2.1 z31.2.2.2.1 z31.2.2.2.2 z39 hz39) gX4_left_X3_members rfl kyX3_members rfl rfl rfl (q0 := 0) rfl [3] [0, 1, 2] [] [0, 1, 2, 3] rfl rfl rfl rfl (by decide) rfl rfl rfl ⟨rfl, rfl⟩ ⟨Nat.le_of_ble_eq_true rfl, Nat.le_of_ble_eq_true rfl⟩ (Nat.le_of_ble_eq_true rfl) rfl dX4_left_39 ?_
    exact hQ (z39, z31.2.1, z31.2.2.1, z31.2.2.2.1, z31.2.2.2.2) _ _ (gd_s hf) dX4_left_42
  · replace hf := gd_t hc hf
    refine g_bipush (v := (-2 : Int32)) hC dX4_left_8 cb_m2 ?_
    exact hQ ((-2 : Int32), xW2_row, xW2_quiets, xW2_place, xW2_turned) _ _ (gd_s hf) dX4_left_10
theorem kyX4_firstTurn : yX4_firstTurn.cls = RX4 ∧ yX4_firstTurn.cls ≠ "java/lang/invoke/MethodHandle" ∧ yX4_firstTurn.cls ≠ "java/lang/invoke/VarHandle" ∧ (parseMethodDescriptor yX4_firstTurn.desc).map (fun d => d.parameters.length) = some 2 := by decide +kernel
set_option maxHeartbeats 4000000 in
set_option maxRecDepth 100000 in
theorem cX4_firstTurn_m (l : Launch) (D : va_G) (aG aT aP aW1 aW2 aAC aKE : Nat) (xG_actCount : Int32) (xG_heardMinutes : Int32) (xG_silentMinutes : Int32) (xG_toldCount : Int32) (xG_seedNow : Int64) (xP_walkers : Int32) (xP_light : Int32) (xP_water : Int32) (xP_nerves : Int32) (xP_kinds : Int32) (xW1_row : Int32) (xW1_quiets : Int32) (xW1_place : Int32) (xW1_turned : Int32) (xW2_row : Int32) (xW2_quiets : Int32) (xW2_place : Int32) (xW2_turned : Int32) (j1 : Int32) (j2 : Int64) (z : Int32 × Int32 × Int32 × Int32 × Int32) (hf : fX4_firstTurn j1 j2 xP_light xP_water xP_nerves xP_kinds xW1_row xW1_quiets xW1_place xW2_row xW2_quiets xW2_place xW2_turned = some z) : ∀ sz : Nat, Met l yX4_firstTurn wsX4_firstTurn ({ frames := 5, cells := 0, slots := 0, locals := 117 } : Room) (kPre D [] [oO aG 3 [.ref aT, .ref aP, .ref aW1, .ref aW2, .ref aAC, .int xG_actCount, .ref aKE, .int xG_heardMinutes, .int xG_silentMinutes, .int xG_toldCount, .long xG_seedNow], oO aP 0 [.int xP_walkers, .int xP_light, .int xP_water, .int xP_nerves, .int xP_kinds], oO aW1 2 [.ref aP, .int xW1_row, .int xW1_quiets, .int xW1_place, .int xW1_turned], oO aW2 2 [.ref aP, .int xW2_row, .int xW2_quiets, .int xW2_place, .int xW2_turned]] sz [.ref aG, .int j1, .long j2]) (kQi D [] [oO aG 3 [.ref aT, .ref aP, .ref aW1, .ref aW2, .ref aAC, .int xG_actCount, .ref aKE, .int xG_heardMinutes, .int xG_silentMinutes, .int xG_toldCount, .long xG_seedNow], oO aP 0 [.int xP_walkers, .int xP_light, .int xP_water, .int xP_nerves, .int xP_kinds], oO aW1 2 [.ref aP, .int xW1_row, .int xW1_quiets, .int xW1_place, .int xW1_turned], oO aW2 2 [.ref aP, .int xW2_row, .int xW2_quiets, .int xW2_place, .int xW2_turned]] sz [oO aG 3 [.ref aT, .ref aP, .ref aW1, .ref aW2, .ref aAC, .int xG_actCount, .ref aKE, .int xG_heardMinutes, .int xG_silentMinutes, .int xG_toldCount, .long xG_seedNow], oO aP 0 [.int xP_walkers, .int xP_light, .int xP_water, .int xP_nerves, .int xP_kinds], oO aW1 2 [.ref aP, .int xW1_row, .int xW1_quiets, .int xW1_place, .int xW1_turned], oO aW2 2 [.ref aP, .int z.2.1, .int z.2.2.1, .int z.2.2.2.1, .int z.2.2.2.2]] z.1) 0 0 (va_A [oO aG 3 [.ref aT, .ref aP, .ref aW1, .ref aW2, .ref aAC, .int xG_actCount, .ref aKE, .int xG_heardMinutes, .int xG_silentMinutes, .int xG_toldCount, .long xG_seedNow], oO aP 0 [.int xP_walkers, .int xP_light, .int xP_water, .int xP_nerves, .int xP_kinds], oO aW1 2 [.ref aP, .int xW1_row, .int xW1_quiets, .int xW1_place, .int xW1_turned], oO aW2 2 [.ref aP, .int xW2_row, .int xW2_quiets, .int xW2_place, .int xW2_turned]] sz) := by
  refine kMet_i (own := RX4) z (fun u => u.1) (fun u => [oO aG 3 [.ref aT, .ref aP, .ref aW1, .ref aW2, .ref aAC, .int xG_actCount, .ref aKE, .int xG_heardMinutes, .int xG_silentMinutes, .int xG_toldCount, .long xG_seedNow], oO aP 0 [.int xP_walkers, .int xP_light, .int xP_water, .int xP_nerves, .int xP_kinds], oO aW1 2 [.ref aP, .int xW1_row, .int xW1_quiets, .int xW1_place, .int xW1_turned], oO aW2 2 [.ref aP, .int u.2.1, .int u.2.2.1, .int u.2.2.2.1, .int u.2.2.2.2]]) rfl (by decide) rfl ⟨rfl, rfl⟩ (Nat.le_of_ble_eq_true rfl) ?_
  intro X hXl hXD hC hQ
  subst hXl
  subst hXD
  change kG X 0 [(0, .ref aG), (1, .int j1), (2, .long j2)] [] [oO aG 3 [.ref aT, .ref aP, .ref aW1, .ref aW2, .ref aAC, .int xG_actCount, .ref aKE, .int xG_heardMinutes, .int xG_silentMinutes, .int xG_toldCount, .long xG_seedNow], oO aP 0 [.int xP_walkers, .int xP_light, .int xP_water, .int xP_nerves, .int xP_kinds], oO aW1 2 [.ref aP, .int xW1_row, .int xW1_quiets, .int xW1_place, .int xW1_turned], oO aW2 2 [.ref aP, .int xW2_row, .int xW2_quiets, .int xW2_place, .int xW2_turned]]
  have hinX4 : ∀ w ∈ wsX40, w ∈ wsX4_firstTurn := fun _ h => List.mem_cons_of_mem _ (List.mem_append_left _ (List.mem_append_left _ (List.mem_append_right _ h)))
  unfold fX4_firstTurn at hf
  refine g_iload_n hC 1 dX4_firstTurn_0 rfl rfl ?_
  refine g_lload_n hC 2 dX4_firstTurn_1 rfl rfl ?_
  obtain ⟨z2, hz2, hf⟩ := gd_b hf
  refine g_callSi (wr := [oO aG 3 [.ref aT, .ref aP, .ref aW1, .ref aW2, .ref aAC, .int xG_actCount, .ref aKE, .int xG_heardMinutes, .int xG_silentMinutes, .int xG_toldCount, .long xG_seedNow], oO aP 0 [.int xP_walkers, .int xP_light, .int xP_water, .int xP_nerves, .int xP_kinds], oO aW1 2 [.ref aP, .int xW1_row, .int xW1_quiets, .int xW1_place, .int xW1_turned], oO aW2 2 [.ref aP, .int xW2_row, .int xW2_quiets, .int xW2_place, .int xW2_turned]]) (wn := [oO aG 3 [.ref aT, .ref aP, .ref aW1, .ref aW2, .ref aAC, .int xG_actCount, .ref aKE, .int xG_heardMinutes, .int xG_silentMinutes, .int xG_toldCount, .long xG_seedNow], oO aP 0 [.int xP_walkers, .int xP_light, .int xP_water, .int xP_nerves, .int xP_kinds], oO aW1 2 [.ref aP, .int xW1_row, .int xW1_quiets, .int xW1_place, .int xW1_turned], oO aW2 2 [.ref aP, .int xW2_row, .int xW2_quiets, .int xW2_place, .int xW2_turned]]) hC [.int j1, .long j2] (cX4_isSong_m (kl X) (kD X) j1 j2 z2 hz2) gX4_firstTurn_X4_isSong rfl kyX4_isSong rfl [] [0, 1, 2, 3] [] [0, 1, 2, 3] rfl rfl rfl rfl (by decide) rfl rfl rfl ⟨rfl, rfl⟩ ⟨Nat.le_of_ble_eq_true rfl, Nat.le_of_ble_eq_true rfl⟩ (Nat.le_of_ble_eq_true rfl) rfl dX4_firstTurn_2 ?_
  refine g_if_ne (tgt := 11) hC dX4_firstTurn_5 (by decide) (fun hc => ?_) (fun hc => ?_)
  · replace hf := gd_f hc hf
    refine g_aload_n hC 0 dX4_firstTurn_11 rfl rfl ?_
    refine g_get (C := RX4) (T := TX4) (N := 11) (v := .ref aW2) hC hinX4 0 3 rfl rfl (by decide) (List.mem_of_getElem? (i := 1) rfl) rfl dX4_firstTurn_12 ?_
    refine g_aload_n hC 0 dX4_firstTurn_15 rfl rfl ?_
    refine g_get (C := RX4) (T := TX4) (N := 11) (v := .ref aW1) hC hinX4 0 2 rfl rfl (by decide) (List.mem_of_getElem? (i := 2) rfl) rfl dX4_firstTurn_16 ?_
    obtain ⟨z19, hz19, hf⟩ := gd_b hf
    refine g_callVl (wr := [oO aG 3 [.ref aT, .ref aP, .ref aW1, .ref aW2, .ref aAC, .int xG_actCount, .ref aKE, .int xG_heardMinutes, .int xG_silentMinutes, .int xG_toldCount, .long xG_seedNow], oO aP 0 [.int xP_walkers, .int xP_light, .int xP_water, .int xP_nerves, .int xP_kinds], oO aW2 2 [.ref aP, .int xW2_row, .int xW2_quiets, .int xW2_place, .int xW2_turned]]) (wn := [oO aG 3 [.ref aT, .ref aP, .ref aW1, .ref aW2, .ref aAC, .int xG_actCount, .ref aKE, .int xG_heardMinutes, .int xG_silentMinutes, .int xG_toldCount, .long xG_seedNow], oO aP 0 [.int xP_walkers, .int xP_light, .int xP_water, .int xP_nerves, .int xP_kinds], oO aW1 2 [.ref aP, .int xW1_row, .int xW1_quiets, .int xW1_place, .int xW1_turned], oO aW2 2 [.ref aP, .int xW2_row, .int xW2_quiets, .int xW2_place, .int xW2_turned]]) hC [] (cX3_state_m (kl X) (kD X) aP aW1 xW1_row xW1_quiets xW1_place xW1_turned z19 hz19) gX4_firstTurn_X3_state rfl kyX3_state rfl rfl rfl (q0 := 0) rfl [2] [0, 1, 3] [] [0, 1, 3, 2] rfl rfl rfl rfl (by decide) rfl rfl rfl ⟨rfl, rfl⟩ ⟨Nat.le_of_ble_eq_true rfl, Nat.le_of_ble_eq_true rfl⟩ (Nat.le_of_ble_eq_true rfl) rfl dX4_firstTurn_19 ?_
    obtain ⟨z22, hz22, hf⟩ := gd_b hf
    refine g_callVv (wr := [oO aG 3 [.ref aT, .ref aP, .ref aW1, .ref aW2, .ref aAC, .int xG_actCount, .ref aKE, .int xG_heardMinutes, .int xG_silentMinutes, .int xG_toldCount, .long xG_seedNow], oO aP 0 [.int xP_walkers, .int xP_light, .int xP_water, .int xP_nerves, .int xP_kinds], oO aW1 2 [.ref aP, .int xW1_row, .int xW1_quiets, .int xW1_place, .int xW1_turned]]) (wn := [oO aG 3 [.ref aT, .ref aP, .ref aW1, .ref aW2, .ref aAC, .int xG_actCount, .ref aKE, .int xG_heardMinutes, .int xG_silentMinutes, .int xG_toldCount, .long xG_seedNow], oO aP 0 [.int xP_walkers, .int xP_light, .int xP_water, .int xP_nerves, .int xP_kinds], oO aW1 2 [.ref aP, .int xW1_row, .int xW1_quiets, .int xW1_place, .int xW1_turned], oO aW2 2 [.ref aP, .int z22.1, .int z22.2.1, .int z22.2.2, .int xW2_turned]]) hC [.long z19] (cX3_become_m (kl X) (kD X) aP aW2 xW2_row xW2_quiets xW2_place xW2_turned z19 z22 hz22) gX4_firstTurn_X3_become rfl kyX3_become rfl rfl rfl (q0 := 0) rfl [3] [0, 1, 2] [] [0, 1, 2, 3] rfl rfl rfl rfl (by decide) rfl rfl rfl ⟨rfl, rfl⟩ ⟨Nat.le_of_ble_eq_true rfl, Nat.le_of_ble_eq_true rfl⟩ (Nat.le_of_ble_eq_true rfl) rfl dX4_firstTurn_22 ?_
    refine g_aload_n hC 0 dX4_firstTurn_25 rfl rfl ?_
    refine g_get (C := RX4) (T := TX4) (N := 11) (v := .ref aW2) hC hinX4 0 3 rfl rfl (by decide) (List.mem_of_getElem? (i := 1) rfl) rfl dX4_firstTurn_26 ?_
    refine g_iload_n hC 1 dX4_firstTurn_29 rfl rfl ?_
    refine g_lload_n hC 2 dX4_firstTurn_30 rfl rfl ?_
    obtain ⟨z31, hz31, hf⟩ := gd_b hf
    refine g_callVi (wr := [oO aG 3 [.ref aT, .ref aP, .ref aW1, .ref aW2, .ref aAC, .int xG_actCount, .ref aKE, .int xG_heardMinutes, .int xG_silentMinutes, .int xG_toldCount, .long xG_seedNow], oO aW1 2 [.ref aP, .int xW1_row, .int xW1_quiets, .int xW1_place, .int xW1_turned]]) (wn := [oO aG 3 [.ref aT, .ref aP, .ref aW1, .ref aW2, .ref aAC, .int xG_actCount, .ref aKE, .int xG_heardMinutes, .int xG_silentMinutes, .int xG_toldCount, .long xG_seedNow], oO aP 0 [.int xP_walkers, .int xP_light, .int xP_water, .int xP_nerves, .int xP_kinds], oO aW1 2 [.ref aP, .int xW1_row, .int xW1_quiets, .int xW1_place, .int xW1_turned], oO aW2 2 [.ref aP, .int z31.2.1, .int z31.2.2.1, .int z31.2.2.2.1, .int z31.2.2.2.2]]) hC [.int j1, .long j2] (cX3_sing_m (kl X) (kD X) aP aW2 xP_walkers xP_light xP_water xP_nerves xP_kinds z22.1 z22.2.1 z22.2.2 xW2_turned j1 j2 z31 hz31) gX4_firstTurn_X3_sing rfl kyX3_sing rfl rfl rfl (q0 := 1) rfl [1, 3] [0, 2] [] [0, 2, 1, 3] rfl rfl rfl rfl (by decide) rfl rfl rfl ⟨rfl, rfl⟩ ⟨Nat.le_of_ble_eq_true rfl, Nat.le_of_ble_eq_true rfl⟩ (Nat.le_of_ble_eq_true rfl) rfl dX4_firstTurn_31 ?_
    exact hQ (z31.1, z31.2.1, z31.2.2.1, z31.2.2.2.1, z31.2.2.2.2) _ _ (gd_s hf) dX4_firstTurn_34
  · replace hf := gd_t hc hf
    refine g_bipush (v := (-2 : Int32)) hC dX4_firstTurn_8 cb_m2 ?_
    exact hQ ((-2 : Int32), xW2_row, xW2_quiets, xW2_place, xW2_turned) _ _ (gd_s hf) dX4_firstTurn_10
theorem kyX4_leftOf : yX4_leftOf.cls = RX4 ∧ yX4_leftOf.cls ≠ "java/lang/invoke/MethodHandle" ∧ yX4_leftOf.cls ≠ "java/lang/invoke/VarHandle" ∧ (parseMethodDescriptor yX4_leftOf.desc).map (fun d => d.parameters.length) = some 3 := by decide +kernel
set_option maxHeartbeats 4000000 in
set_option maxRecDepth 100000 in
theorem cX4_leftOf_m (l : Launch) (D : va_G) (aG aT aP aW1 aW2 aAC aKE : Nat) (xG_actCount : Int32) (xG_heardMinutes : Int32) (xG_silentMinutes : Int32) (xG_toldCount : Int32) (xG_seedNow : Int64) (xP_walkers : Int32) (xP_light : Int32) (xP_water : Int32) (xP_nerves : Int32) (xP_kinds : Int32) (xW1_row : Int32) (xW1_quiets : Int32) (xW1_place : Int32) (xW1_turned : Int32) (xW2_row : Int32) (xW2_quiets : Int32) (xW2_place : Int32) (xW2_turned : Int32) (j1 : Int32) (j2 : Int32) (j3 : Int64) (z : Int32 × Int32 × Int32 × Int32 × Int32) (hf : fX4_leftOf j1 j2 j3 xP_light xP_water xP_nerves xP_kinds xW1_place xW2_row xW2_quiets xW2_place xW2_turned = some z) : ∀ sz : Nat, Met l yX4_leftOf wsX4_leftOf ({ frames := 5, cells := 0, slots := 0, locals := 117 } : Room) (kPre D [] [oO aG 3 [.ref aT, .ref aP, .ref aW1, .ref aW2, .ref aAC, .int xG_actCount, .ref aKE, .int xG_heardMinutes, .int xG_silentMinutes, .int xG_toldCount, .long xG_seedNow], oO aP 0 [.int xP_walkers, .int xP_light, .int xP_water, .int xP_nerves, .int xP_kinds], oO aW1 2 [.ref aP, .int xW1_row, .int xW1_quiets, .int xW1_place, .int xW1_turned], oO aW2 2 [.ref aP, .int xW2_row, .int xW2_quiets, .int xW2_place, .int xW2_turned]] sz [.ref aG, .int j1, .int j2, .long j3]) (kQi D [] [oO aG 3 [.ref aT, .ref aP, .ref aW1, .ref aW2, .ref aAC, .int xG_actCount, .ref aKE, .int xG_heardMinutes, .int xG_silentMinutes, .int xG_toldCount, .long xG_seedNow], oO aP 0 [.int xP_walkers, .int xP_light, .int xP_water, .int xP_nerves, .int xP_kinds], oO aW1 2 [.ref aP, .int xW1_row, .int xW1_quiets, .int xW1_place, .int xW1_turned], oO aW2 2 [.ref aP, .int xW2_row, .int xW2_quiets, .int xW2_place, .int xW2_turned]] sz [oO aG 3 [.ref aT, .ref aP, .ref aW1, .ref aW2, .ref aAC, .int xG_actCount, .ref aKE, .int xG_heardMinutes, .int xG_silentMinutes, .int xG_toldCount, .long xG_seedNow], oO aP 0 [.int xP_walkers, .int xP_light, .int xP_water, .int xP_nerves, .int xP_kinds], oO aW1 2 [.ref aP, .int xW1_row, .int xW1_quiets, .int xW1_place, .int xW1_turned], oO aW2 2 [.ref aP, .int z.2.1, .int z.2.2.1, .int z.2.2.2.1, .int z.2.2.2.2]] z.1) 0 0 (va_A [oO aG 3 [.ref aT, .ref aP, .ref aW1, .ref aW2, .ref aAC, .int xG_actCount, .ref aKE, .int xG_heardMinutes, .int xG_silentMinutes, .int xG_toldCount, .long xG_seedNow], oO aP 0 [.int xP_walkers, .int xP_light, .int xP_water, .int xP_nerves, .int xP_kinds], oO aW1 2 [.ref aP, .int xW1_row, .int xW1_quiets, .int xW1_place, .int xW1_turned], oO aW2 2 [.ref aP, .int xW2_row, .int xW2_quiets, .int xW2_place, .int xW2_turned]] sz) := by
  refine kMet_i (own := RX4) z (fun u => u.1) (fun u => [oO aG 3 [.ref aT, .ref aP, .ref aW1, .ref aW2, .ref aAC, .int xG_actCount, .ref aKE, .int xG_heardMinutes, .int xG_silentMinutes, .int xG_toldCount, .long xG_seedNow], oO aP 0 [.int xP_walkers, .int xP_light, .int xP_water, .int xP_nerves, .int xP_kinds], oO aW1 2 [.ref aP, .int xW1_row, .int xW1_quiets, .int xW1_place, .int xW1_turned], oO aW2 2 [.ref aP, .int u.2.1, .int u.2.2.1, .int u.2.2.2.1, .int u.2.2.2.2]]) rfl (by decide) rfl ⟨rfl, rfl⟩ (Nat.le_of_ble_eq_true rfl) ?_
  intro X hXl hXD hC hQ
  subst hXl
  subst hXD
  change kG X 0 [(0, .ref aG), (1, .int j1), (2, .int j2), (3, .long j3)] [] [oO aG 3 [.ref aT, .ref aP, .ref aW1, .ref aW2, .ref aAC, .int xG_actCount, .ref aKE, .int xG_heardMinutes, .int xG_silentMinutes, .int xG_toldCount, .long xG_seedNow], oO aP 0 [.int xP_walkers, .int xP_light, .int xP_water, .int xP_nerves, .int xP_kinds], oO aW1 2 [.ref aP, .int xW1_row, .int xW1_quiets, .int xW1_place, .int xW1_turned], oO aW2 2 [.ref aP, .int xW2_row, .int xW2_quiets, .int xW2_place, .int xW2_turned]]
  have hinX4 : ∀ w ∈ wsX40, w ∈ wsX4_leftOf := fun _ h => List.mem_cons_of_mem _ (List.mem_append_left _ (List.mem_append_left _ (List.mem_append_right _ h)))
  unfold fX4_leftOf at hf
  refine g_aload_n hC 0 dX4_leftOf_0 rfl rfl ?_
  refine g_get (C := RX4) (T := TX4) (N := 11) (v := .ref aW2) hC hinX4 0 3 rfl rfl (by decide) (List.mem_of_getElem? (i := 1) rfl) rfl dX4_leftOf_1 ?_
  refine g_iload_n hC 1 dX4_leftOf_4 rfl rfl ?_
  refine g_aload_n hC 0 dX4_leftOf_5 rfl rfl ?_
  refine g_get (C := RX4) (T := TX4) (N := 11) (v := .ref aW1) hC hinX4 0 2 rfl rfl (by decide) (List.mem_of_getElem? (i := 2) rfl) rfl dX4_leftOf_6 ?_
  obtain ⟨z9, hz9, hf⟩ := gd_b hf
  refine g_callVi (wr := [oO aG 3 [.ref aT, .ref aP, .ref aW1, .ref aW2, .ref aAC, .int xG_actCount, .ref aKE, .int xG_heardMinutes, .int xG_silentMinutes, .int xG_toldCount, .long xG_seedNow], oO aP 0 [.int xP_walkers, .int xP_light, .int xP_water, .int xP_nerves, .int xP_kinds], oO aW2 2 [.ref aP, .int xW2_row, .int xW2_quiets, .int xW2_place, .int xW2_turned]]) (wn := [oO aG 3 [.ref aT, .ref aP, .ref aW1, .ref aW2, .ref aAC, .int xG_actCount, .ref aKE, .int xG_heardMinutes, .int xG_silentMinutes, .int xG_toldCount, .long xG_seedNow], oO aP 0 [.int xP_walkers, .int xP_light, .int xP_water, .int xP_nerves, .int xP_kinds], oO aW1 2 [.ref aP, .int xW1_row, .int xW1_quiets, .int xW1_place, .int xW1_turned], oO aW2 2 [.ref aP, .int xW2_row, .int xW2_quiets, .int xW2_place, .int xW2_turned]]) hC [] (cX3_place_m (kl X) (kD X) aP aW1 xW1_row xW1_quiets xW1_place xW1_turned z9 hz9) gX4_leftOf_X3_place rfl kyX3_place rfl rfl rfl (q0 := 0) rfl [2] [0, 1, 3] [] [0, 1, 3, 2] rfl rfl rfl rfl (by decide) rfl rfl rfl ⟨rfl, rfl⟩ ⟨Nat.le_of_ble_eq_true rfl, Nat.le_of_ble_eq_true rfl⟩ (Nat.le_of_ble_eq_true rfl) rfl dX4_leftOf_9 ?_
  obtain ⟨z12, hz12, hf⟩ := gd_b hf
  refine g_callVv (wr := [oO aG 3 [.ref aT, .ref aP, .ref aW1, .ref aW2, .ref aAC, .int xG_actCount, .ref aKE, .int xG_heardMinutes, .int xG_silentMinutes, .int xG_toldCount, .long xG_seedNow], oO aP 0 [.int xP_walkers, .int xP_light, .int xP_water, .int xP_nerves, .int xP_kinds], oO aW1 2 [.ref aP, .int xW1_row, .int xW1_quiets, .int xW1_place, .int xW1_turned]]) (wn := [oO aG 3 [.ref aT, .ref aP, .ref aW1, .ref aW2, .ref aAC, .int xG_actCount, .ref aKE, .int xG_heardMinutes, .int xG_silentMinutes, .int xG_toldCount, .long xG_seedNow], oO aP 0 [.int xP_walkers, .int xP_light, .int xP_water, .int xP_nerves, .int xP_kinds], oO aW1 2 [.ref aP, .int xW1_row, .int xW1_quiets, .int xW1_place, .int xW1_turned], oO aW2 2 [.ref aP, .int z12.1, .int z12.2.1, .int z12.2.2, .int xW2_turned]]) hC [.int j1, .int z9] (cX3_lineUp_m (kl X) (kD X) aP aW2 xW2_row xW2_quiets xW2_place xW2_turned j1 z9 z12 hz12) gX4_leftOf_X3_lineUp rfl kyX3_lineUp rfl rfl rfl (q0 := 0) rfl [3] [0, 1, 2] [] [0, 1, 2, 3] rfl rfl rfl rfl (by decide) rfl rfl rfl ⟨rfl, rfl⟩ ⟨Nat.le_of_ble_eq_true rfl, Nat.le_of_ble_eq_true rfl⟩ (Nat.le_of_ble_eq_true rfl) rfl dX4_leftOf_12 ?_
  refine g_aload_n hC 0 dX4_leftOf_15 rfl rfl ?_
  refine g_get (C := RX4) (T := TX4) (N := 11) (v := .ref aW2) hC hinX4 0 3 rfl rfl (by decide) (List.mem_of_getElem? (i := 1) rfl) rfl dX4_leftOf_16 ?_
  refine g_iload_n hC 2 dX4_leftOf_19 rfl rfl ?_
  refine g_lload_n hC 3 dX4_leftOf_20 rfl rfl ?_
  obtain ⟨z21, hz21, hf⟩ := gd_b hf
  refine g_callVi (wr := [oO aG 3 [.ref aT, .ref aP, .ref aW1, .ref aW2, .ref aAC, .int xG_actCount, .ref aKE, .int xG_heardMinutes, .int xG_silentMinutes, .int xG_toldCount, .long xG_seedNow], oO aW1 2 [.ref aP, .int xW1_row, .int xW1_quiets, .int xW1_place, .int xW1_turned]]) (wn := [oO aG 3 [.ref aT, .ref aP, .ref aW1, .ref aW2, .ref aAC, .int xG_actCount, .ref aKE, .int xG_heardMinutes, .int xG_silentMinutes, .int xG_toldCount, .long xG_seedNow], oO aP 0 [.int xP_walkers, .int xP_light, .int xP_water, .int xP_nerves, .int xP_kinds], oO aW1 2 [.ref aP, .int xW1_row, .int xW1_quiets, .int xW1_place, .int xW1_turned], oO aW2 2 [.ref aP, .int z21.2.1, .int z21.2.2.1, .int z21.2.2.2.1, .int z21.2.2.2.2]]) hC [.int j2, .long j3] (cX3_sing_m (kl X) (kD X) aP aW2 xP_walkers xP_light xP_water xP_nerves xP_kinds z12.1 z12.2.1 z12.2.2 xW2_turned j2 j3 z21 hz21) gX4_leftOf_X3_sing rfl kyX3_sing rfl rfl rfl (q0 := 1) rfl [1, 3] [0, 2] [] [0, 2, 1, 3] rfl rfl rfl rfl (by decide) rfl rfl rfl ⟨rfl, rfl⟩ ⟨Nat.le_of_ble_eq_true rfl, Nat.le_of_ble_eq_true rfl⟩ (Nat.le_of_ble_eq_true rfl) rfl dX4_leftOf_21 ?_
  refine g_pop hC dX4_leftOf_24 rfl ?_
  refine g_aload_n hC 0 dX4_leftOf_25 rfl rfl ?_
  refine g_get (C := RX4) (T := TX4) (N := 11) (v := .ref aW2) hC hinX4 0 3 rfl rfl (by decide) (List.mem_of_getElem? (i := 1) rfl) rfl dX4_leftOf_26 ?_
  obtain ⟨z29, hz29, hf⟩ := gd_b hf
  refine g_callVi (wr := [oO aG 3 [.ref aT, .ref aP, .ref aW1, .ref aW2, .ref aAC, .int xG_actCount, .ref aKE, .int xG_heardMinutes, .int xG_silentMinutes, .int xG_toldCount, .long xG_seedNow], oO aP 0 [.int xP_walkers, .int xP_light, .int xP_water, .int xP_nerves, .int xP_kinds], oO aW1 2 [.ref aP, .int xW1_row, .int xW1_quiets, .int xW1_place, .int xW1_turned]]) (wn := [oO aG 3 [.ref aT, .ref aP, .ref aW1, .ref aW2, .ref aAC, .int xG_actCount, .ref aKE, .int xG_heardMinutes, .int xG_silentMinutes, .int xG_toldCount, .long xG_seedNow], oO aP 0 [.int xP_walkers, .int xP_light, .int xP_water, .int xP_nerves, .int xP_kinds], oO aW1 2 [.ref aP, .int xW1_row, .int xW1_quiets, .int xW1_place, .int xW1_turned], oO aW2 2 [.ref aP, .int z21.2.1, .int z21.2.2.1, .int z21.2.2.2.1, .int z21.2.2.2.2]]) hC [] (cX3_size_m (kl X) (kD X) aP aW2 z21.2.1 z21.2.2.1 z21.2.2.2.1 z21.2.2.2.2 z29 hz29) gX4_leftOf_X3_size rfl kyX3_size rfl rfl rfl (q0 := 0) rfl [3] [0, 1, 2] [] [0, 1, 2, 3] rfl rfl rfl rfl (by decide) rfl rfl rfl ⟨rfl, rfl⟩ ⟨Nat.le_of_ble_eq_true rfl, Nat.le_of_ble_eq_true rfl⟩ (Nat.le_of_ble_eq_true rfl) rfl dX4_leftOf_29 ?_
  exact hQ (z29, z21.2.1, z21.2.2.1, z21.2.2.2.1, z21.2.2.2.2) _ _ (gd_s hf) dX4_leftOf_32
theorem kyX4_order : yX4_order.cls = RX4 ∧ yX4_order.cls ≠ "java/lang/invoke/MethodHandle" ∧ yX4_order.cls ≠ "java/lang/invoke/VarHandle" ∧ (parseMethodDescriptor yX4_order.desc).map (fun d => d.parameters.length) = some 3 := by decide +kernel
set_option maxHeartbeats 4000000 in
set_option maxRecDepth 100000 in
theorem cX4_order_m (l : Launch) (D : va_G) (aG aT aP aW1 aW2 aAC aKE : Nat) (xG_actCount : Int32) (xG_heardMinutes : Int32) (xG_silentMinutes : Int32) (xG_toldCount : Int32) (xG_seedNow : Int64) (xP_walkers : Int32) (xP_light : Int32) (xP_water : Int32) (xP_nerves : Int32) (xP_kinds : Int32) (xW1_row : Int32) (xW1_quiets : Int32) (xW1_place : Int32) (xW1_turned : Int32) (xW2_row : Int32) (xW2_quiets : Int32) (xW2_place : Int32) (xW2_turned : Int32) (j1 : Int32) (j2 : Int64) (j4 : Int32) (z : Int32 × Int32 × Int32 × Int32 × Int32) (hf : fX4_order j1 j2 j4 xP_light xP_water xP_nerves xP_kinds xW1_row xW1_place xW2_row xW2_quiets xW2_place xW2_turned = some z) : ∀ sz : Nat, Met l yX4_order wsX4_order ({ frames := 6, cells := 0, slots := 0, locals := 141 } : Room) (kPre D [] [oO aG 3 [.ref aT, .ref aP, .ref aW1, .ref aW2, .ref aAC, .int xG_actCount, .ref aKE, .int xG_heardMinutes, .int xG_silentMinutes, .int xG_toldCount, .long xG_seedNow], oO aP 0 [.int xP_walkers, .int xP_light, .int xP_water, .int xP_nerves, .int xP_kinds], oO aW1 2 [.ref aP, .int xW1_row, .int xW1_quiets, .int xW1_place, .int xW1_turned], oO aW2 2 [.ref aP, .int xW2_row, .int xW2_quiets, .int xW2_place, .int xW2_turned]] sz [.ref aG, .int j1, .long j2, .int j4]) (kQi D [] [oO aG 3 [.ref aT, .ref aP, .ref aW1, .ref aW2, .ref aAC, .int xG_actCount, .ref aKE, .int xG_heardMinutes, .int xG_silentMinutes, .int xG_toldCount, .long xG_seedNow], oO aP 0 [.int xP_walkers, .int xP_light, .int xP_water, .int xP_nerves, .int xP_kinds], oO aW1 2 [.ref aP, .int xW1_row, .int xW1_quiets, .int xW1_place, .int xW1_turned], oO aW2 2 [.ref aP, .int xW2_row, .int xW2_quiets, .int xW2_place, .int xW2_turned]] sz [oO aG 3 [.ref aT, .ref aP, .ref aW1, .ref aW2, .ref aAC, .int xG_actCount, .ref aKE, .int xG_heardMinutes, .int xG_silentMinutes, .int xG_toldCount, .long xG_seedNow], oO aP 0 [.int xP_walkers, .int xP_light, .int xP_water, .int xP_nerves, .int xP_kinds], oO aW1 2 [.ref aP, .int xW1_row, .int xW1_quiets, .int xW1_place, .int xW1_turned], oO aW2 2 [.ref aP, .int z.2.1, .int z.2.2.1, .int z.2.2.2.1, .int z.2.2.2.2]] z.1) 0 0 (va_A [oO aG 3 [.ref aT, .ref aP, .ref aW1, .ref aW2, .ref aAC, .int xG_actCount, .ref aKE, .int xG_heardMinutes, .int xG_silentMinutes, .int xG_toldCount, .long xG_seedNow], oO aP 0 [.int xP_walkers, .int xP_light, .int xP_water, .int xP_nerves, .int xP_kinds], oO aW1 2 [.ref aP, .int xW1_row, .int xW1_quiets, .int xW1_place, .int xW1_turned], oO aW2 2 [.ref aP, .int xW2_row, .int xW2_quiets, .int xW2_place, .int xW2_turned]] sz) := by
  refine kMet_i (own := RX4) z (fun u => u.1) (fun u => [oO aG 3 [.ref aT, .ref aP, .ref aW1, .ref aW2, .ref aAC, .int xG_actCount, .ref aKE, .int xG_heardMinutes, .int xG_silentMinutes, .int xG_toldCount, .long xG_seedNow], oO aP 0 [.int xP_walkers, .int xP_light, .int xP_water, .int xP_nerves, .int xP_kinds], oO aW1 2 [.ref aP, .int xW1_row, .int xW1_quiets, .int xW1_place, .int xW1_turned], oO aW2 2 [.ref aP, .int u.2.1, .int u.2.2.1, .int u.2.2.2.1, .int u.2.2.2.2]]) rfl (by decide) rfl ⟨rfl, rfl⟩ (Nat.le_of_ble_eq_true rfl) ?_
  intro X hXl hXD hC hQ
  subst hXl
  subst hXD
  change kG X 0 [(0, .ref aG), (1, .int j1), (2, .long j2), (4, .int j4)] [] [oO aG 3 [.ref aT, .ref aP, .ref aW1, .ref aW2, .ref aAC, .int xG_actCount, .ref aKE, .int xG_heardMinutes, .int xG_silentMinutes, .int xG_toldCount, .long xG_seedNow], oO aP 0 [.int xP_walkers, .int xP_light, .int xP_water, .int xP_nerves, .int xP_kinds], oO aW1 2 [.ref aP, .int xW1_row, .int xW1_quiets, .int xW1_place, .int xW1_turned], oO aW2 2 [.ref aP, .int xW2_row, .int xW2_quiets, .int xW2_place, .int xW2_turned]]
  have hinX4 : ∀ w ∈ wsX40, w ∈ wsX4_order := fun _ h => List.mem_cons_of_mem _ (List.mem_append_left _ (List.mem_append_left _ (List.mem_append_right _ h)))
  have t103 : ∀  (j4 : Int32) (j5 : Int32) (j6 : Int32) (xW2_row : Int32) (xW2_quiets : Int32) (xW2_place : Int32) (xW2_turned : Int32), fX4_order_b103 xP_light xP_water xP_nerves xP_kinds xW1_row xW1_place  j4 j5 j6 xW2_row xW2_quiets xW2_place xW2_turned = some z → kG X 103 [(4, .int j4), (5, .int j5), (6, .int j6)] [] [oO aG 3 [.ref aT, .ref aP, .ref aW1, .ref aW2, .ref aAC, .int xG_actCount, .ref aKE, .int xG_heardMinutes, .int xG_silentMinutes, .int xG_toldCount, .long xG_seedNow], oO aP 0 [.int xP_walkers, .int xP_light, .int xP_water, .int xP_nerves, .int xP_kinds], oO aW1 2 [.ref aP, .int xW1_row, .int xW1_quiets, .int xW1_place, .int xW1_turned], oO aW2 2 [.ref aP, .int xW2_row, .int xW2_quiets, .int xW2_place, .int xW2_turned]] := by
    intro j4 j5 j6 xW2_row xW2_quiets xW2_place xW2_turned hf
    unfold fX4_order_b103 at hf
    refine g_iload hC 0 dX4_order_103 rfl ?_
    refine g_if_ne (tgt := 116) hC dX4_order_105 (by decide) (fun hc => ?_) (fun hc => ?_)
    · replace hf := gd_f hc hf
      refine g_iload hC 2 dX4_order_116 rfl ?_
      exact hQ (j6, xW2_row, xW2_quiets, xW2_place, xW2_turned) _ _ (gd_s hf) dX4_order_118
    · replace hf := gd_t hc hf
      refine g_iload hC 1 dX4_order_108 rfl ?_
      obtain ⟨z110, hz110, hf⟩ := gd_b hf
      refine g_callSi (wr := [oO aG 3 [.ref aT, .ref aP, .ref aW1, .ref aW2, .ref aAC, .int xG_actCount, .ref aKE, .int xG_heardMinutes, .int xG_silentMinutes, .int xG_toldCount, .long xG_seedNow], oO aP 0 [.int xP_walkers, .int xP_light, .int xP_water, .int xP_nerves, .int xP_kinds], oO aW1 2 [.ref aP, .int xW1_row, .int xW1_quiets, .int xW1_place, .int xW1_turned], oO aW2 2 [.ref aP, .int xW2_row, .int xW2_quiets, .int xW2_place, .int xW2_turned]]) (wn := [oO aG 3 [.ref aT, .ref aP, .ref aW1, .ref aW2, .ref aAC, .int xG_actCount, .ref aKE, .int xG_heardMinutes, .int xG_silentMinutes, .int xG_toldCount, .long xG_seedNow], oO aP 0 [.int xP_walkers, .int xP_light, .int xP_water, .int xP_nerves, .int xP_kinds], oO aW1 2 [.ref aP, .int xW1_row, .int xW1_quiets, .int xW1_place, .int xW1_turned], oO aW2 2 [.ref aP, .int xW2_row, .int xW2_quiets, .int xW2_place, .int xW2_turned]]) hC [.int j5] (cX0_figures_m (kl X) (kD X) j5 z110 hz110) gX4_order_X0_figures rfl kyX0_figures rfl [] [0, 1, 2, 3] [] [0, 1, 2, 3] rfl rfl rfl rfl (by decide) rfl rfl rfl ⟨rfl, rfl⟩ ⟨Nat.le_of_ble_eq_true rfl, Nat.le_of_ble_eq_true rfl⟩ (Nat.le_of_ble_eq_true rfl) rfl dX4_order_110 ?_
      refine g_goto (tgt := 118) hC dX4_order_113 (by decide) ?_
      exact hQ (z110, xW2_row, xW2_quiets, xW2_place, xW2_turned) _ _ (gd_s hf) dX4_order_118
  have t90 : ∀ (k53 : Int32 → Int64 → Int32 → Int32 → Int32 → Int32 → Int32 → Int32 → Int32 → Int32 → Int32 → Option (Int32 × Int32 × Int32 × Int32 × Int32)) (hk53 : ∀ (j1 : Int32) (j2 : Int64) (j4 : Int32) (j5 : Int32) (j6 : Int32) (j7 : Int32) (j8 : Int32) (xW2_row : Int32) (xW2_quiets : Int32) (xW2_place : Int32) (xW2_turned : Int32), k53 j1 j2 j4 j5 j6 j7 j8 xW2_row xW2_quiets xW2_place xW2_turned = some z → kG X 53 [(0, .ref aG), (1, .int j1), (2, .long j2), (4, .int j4), (5, .int j5), (6, .int j6), (7, .int j7), (8, .int j8)] [] [oO aG 3 [.ref aT, .ref aP, .ref aW1, .ref aW2, .ref aAC, .int xG_actCount, .ref aKE, .int xG_heardMinutes, .int xG_silentMinutes, .int xG_toldCount, .long xG_seedNow], oO aP 0 [.int xP_walkers, .int xP_light, .int xP_water, .int xP_nerves, .int xP_kinds], oO aW1 2 [.ref aP, .int xW1_row, .int xW1_quiets, .int xW1_place, .int xW1_turned], oO aW2 2 [.ref aP, .int xW2_row, .int xW2_quiets, .int xW2_place, .int xW2_turned]]) (j1 : Int32) (j2 : Int64) (j4 : Int32) (j5 : Int32) (j6 : Int32) (j7 : Int32) (j8 : Int32) (xW2_row : Int32) (xW2_quiets : Int32) (xW2_place : Int32) (xW2_turned : Int32), fX4_order_b90 xP_light xP_water xP_nerves xP_kinds xW1_row xW1_place k53 j1 j2 j4 j5 j6 j7 j8 xW2_row xW2_quiets xW2_place xW2_turned = some z → kG X 90 [(0, .ref aG), (1, .int j1), (2, .long j2), (4, .int j4), (5, .int j5), (6, .int j6), (7, .int j7), (8, .int j8)] [] [oO aG 3 [.ref aT, .ref aP, .ref aW1, .ref aW2, .ref aAC, .int xG_actCount, .ref aKE, .int xG_heardMinutes, .int xG_silentMinutes, .int xG_toldCount, .long xG_seedNow], oO aP 0 [.int xP_walkers, .int xP_light, .int xP_water, .int xP_nerves, .int xP_kinds], oO aW1 2 [.ref aP, .int xW1_row, .int xW1_quiets, .int xW1_place, .int xW1_turned], oO aW2 2 [.ref aP, .int xW2_row, .int xW2_quiets, .int xW2_place, .int xW2_turned]] := by
    intro k53 hk53 j1 j2 j4 j5 j6 j7 j8 xW2_row xW2_quiets xW2_place xW2_turned hf
    unfold fX4_order_b90 at hf
    refine g_iload hC 6 dX4_order_90 rfl ?_
    obtain ⟨z92, hz92, hf⟩ := gd_b hf
    refine g_callSi (wr := [oO aG 3 [.ref aT, .ref aP, .ref aW1, .ref aW2, .ref aAC, .int xG_actCount, .ref aKE, .int xG_heardMinutes, .int xG_silentMinutes, .int xG_toldCount, .long xG_seedNow], oO aP 0 [.int xP_walkers, .int xP_light, .int xP_water, .int xP_nerves, .int xP_kinds], oO aW1 2 [.ref aP, .int xW1_row, .int xW1_quiets, .int xW1_place, .int xW1_turned], oO aW2 2 [.ref aP, .int xW2_row, .int xW2_quiets, .int xW2_place, .int xW2_turned]]) (wn := [oO aG 3 [.ref aT, .ref aP, .ref aW1, .ref aW2, .ref aAC, .int xG_actCount, .ref aKE, .int xG_heardMinutes, .int xG_silentMinutes, .int xG_toldCount, .long xG_seedNow], oO aP 0 [.int xP_walkers, .int xP_light, .int xP_water, .int xP_nerves, .int xP_kinds], oO aW1 2 [.ref aP, .int xW1_row, .int xW1_quiets, .int xW1_place, .int xW1_turned], oO aW2 2 [.ref aP, .int xW2_row, .int xW2_quiets, .int xW2_place, .int xW2_turned]]) hC [.int j7] (cX0_nextOrder_m (kl X) (kD X) j7 z92 hz92) gX4_order_X0_nextOrder rfl kyX0_nextOrder rfl [] [0, 1, 2, 3] [] [0, 1, 2, 3] rfl rfl rfl rfl (by decide) rfl rfl rfl ⟨rfl, rfl⟩ ⟨Nat.le_of_ble_eq_true rfl, Nat.le_of_ble_eq_true rfl⟩ (Nat.le_of_ble_eq_true rfl) rfl dX4_order_92 ?_
    refine g_istore (lv' := [(7, .int z92), (0, .ref aG), (1, .int j1), (2, .long j2), (4, .int j4), (5, .int j5), (6, .int j6), (8, .int j8)]) hC dX4_order_95 (by decide) rfl ?_
    refine g_iinc (v := (j8 + (1 : Int32))) (lv' := [(8, .int (j8 + (1 : Int32))), (7, .int z92), (0, .ref aG), (1, .int j1), (2, .long j2), (4, .int j4), (5, .int j5), (6, .int j6)]) hC 7 dX4_order_97 rfl (ii _ ci_1) (by decide) rfl ?_
    refine g_goto (tgt := 53) hC dX4_order_100 (by decide) ?_
    refine g_lv (lv' := [(0, .ref aG), (1, .int j1), (2, .long j2), (4, .int j4), (5, .int j5), (6, .int j6), (7, .int z92), (8, .int (j8 + (1 : Int32)))]) [2, 3, 4, 5, 6, 7, 1, 0] rfl ?_
    exact hk53 j1 j2 j4 j5 j6 z92 (j8 + (1 : Int32)) xW2_row xW2_quiets xW2_place xW2_turned hf
  have t53 : ∀  (n : Nat) (j1 : Int32) (j2 : Int64) (j4 : Int32) (j5 : Int32) (j6 : Int32) (j7 : Int32) (j8 : Int32) (xW2_row : Int32) (xW2_quiets : Int32) (xW2_place : Int32) (xW2_turned : Int32), lp (fun _ _ _ _ _ _ _ _ _ _ _ => none) (fX4_order_b53_S xP_light xP_water xP_nerves xP_kinds xW1_row xW1_place ) n j1 j2 j4 j5 j6 j7 j8 xW2_row xW2_quiets xW2_place xW2_turned = some z → kG X 53 [(0, .ref aG), (1, .int j1), (2, .long j2), (4, .int j4), (5, .int j5), (6, .int j6), (7, .int j7), (8, .int j8)] [] [oO aG 3 [.ref aT, .ref aP, .ref aW1, .ref aW2, .ref aAC, .int xG_actCount, .ref aKE, .int xG_heardMinutes, .int xG_silentMinutes, .int xG_toldCount, .long xG_seedNow], oO aP 0 [.int xP_walkers, .int xP_light, .int xP_water, .int xP_nerves, .int xP_kinds], oO aW1 2 [.ref aP, .int xW1_row, .int xW1_quiets, .int xW1_place, .int xW1_turned], oO aW2 2 [.ref aP, .int xW2_row, .int xW2_quiets, .int xW2_place, .int xW2_turned]] := by
    intro  n
    induction n with
    | zero => intro j1 j2 j4 j5 j6 j7 j8 xW2_row xW2_quiets xW2_place xW2_turned hf; cases hf
    | succ n hk53 =>
      intro j1 j2 j4 j5 j6 j7 j8 xW2_row xW2_quiets xW2_place xW2_turned hf
      rw [lp_s] at hf
      revert hf hk53
      generalize lp (fun _ _ _ _ _ _ _ _ _ _ _ => none) (fX4_order_b53_S xP_light xP_water xP_nerves xP_kinds xW1_row xW1_place ) n = k53
      intro hk53 hf
      unfold fX4_order_b53_S at hf
      refine g_iload hC 7 dX4_order_53 rfl ?_
      refine g_bipush (v := (120 : Int32)) hC dX4_order_55 cb_120 ?_
      refine g_icmp_ge (tgt := 103) hC dX4_order_57 (by decide) (fun hc => ?_) (fun hc => ?_)
      · replace hf := gd_t hc hf
        refine g_lv (lv' := [(4, .int j4), (5, .int j5), (6, .int j6)]) [3, 4, 5] rfl ?_
        exact t103  j4 j5 j6 xW2_row xW2_quiets xW2_place xW2_turned hf
      · replace hf := gd_f hc hf
        refine g_iload hC 6 dX4_order_60 rfl ?_
        refine g_if_eq (tgt := 103) hC dX4_order_62 (by decide) (fun hc => ?_) (fun hc => ?_)
        · replace hf := gd_t hc hf
          refine g_lv (lv' := [(4, .int j4), (5, .int j5), (6, .int j6)]) [3, 4, 5] rfl ?_
          exact t103  j4 j5 j6 xW2_row xW2_quiets xW2_place xW2_turned hf
        · replace hf := gd_f hc hf
          refine g_aload_n hC 0 dX4_order_65 rfl rfl ?_
          refine g_iload hC 6 dX4_order_66 rfl ?_
          refine g_iload_n hC 1 dX4_order_68 rfl rfl ?_
          refine g_lload_n hC 2 dX4_order_69 rfl rfl ?_
          obtain ⟨z70, hz70, hf⟩ := gd_b hf
          refine g_callVi (wr := []) (wn := [oO aG 3 [.ref aT, .ref aP, .ref aW1, .ref aW2, .ref aAC, .int xG_actCount, .ref aKE, .int xG_heardMinutes, .int xG_silentMinutes, .int xG_toldCount, .long xG_seedNow], oO aP 0 [.int xP_walkers, .int xP_light, .int xP_water, .int xP_nerves, .int xP_kinds], oO aW1 2 [.ref aP, .int xW1_row, .int xW1_quiets, .int xW1_place, .int xW1_turned], oO aW2 2 [.ref aP, .int z70.2.1, .int z70.2.2.1, .int z70.2.2.2.1, .int z70.2.2.2.2]]) hC [.int j7, .int j1, .long j2] (cX4_leftOf_m (kl X) (kD X) aG aT aP aW1 aW2 aAC aKE xG_actCount xG_heardMinutes xG_silentMinutes xG_toldCount xG_seedNow xP_walkers xP_light xP_water xP_nerves xP_kinds xW1_row xW1_quiets xW1_place xW1_turned xW2_row xW2_quiets xW2_place xW2_turned j7 j1 j2 z70 hz70) gX4_order_X4_leftOf rfl kyX4_leftOf rfl rfl rfl (q0 := 0) rfl [0, 1, 2, 3] [] [] [0, 1, 2, 3] rfl rfl rfl rfl (by decide) rfl rfl rfl ⟨rfl, rfl⟩ ⟨Nat.le_of_ble_eq_true rfl, Nat.le_of_ble_eq_true rfl⟩ (Nat.le_of_ble_eq_true rfl) rfl dX4_order_70 ?_
          refine g_istore (lv' := [(9, .int z70.1), (0, .ref aG), (1, .int j1), (2, .long j2), (4, .int j4), (5, .int j5), (6, .int j6), (7, .int j7), (8, .int j8)]) hC dX4_order_73 (by decide) rfl ?_
          refine g_iload hC 0 dX4_order_75 rfl ?_
          refine g_iload hC 6 dX4_order_77 rfl ?_
          refine g_icmp_le (tgt := 90) hC dX4_order_79 (by decide) (fun hc => ?_) (fun hc => ?_)
          · replace hf := gd_t hc hf
            refine g_lv (lv' := [(0, .ref aG), (1, .int j1), (2, .long j2), (4, .int j4), (5, .int j5), (6, .int j6), (7, .int j7), (8, .int j8)]) [1, 2, 3, 4, 5, 6, 7, 8] rfl ?_
            exact t90 k53 hk53 j1 j2 j4 j5 j6 j7 j8 z70.2.1 z70.2.2.1 z70.2.2.2.1 z70.2.2.2.2 hf
          · replace hf := gd_f hc hf
            refine g_iload hC 0 dX4_order_82 rfl ?_
            refine g_istore (lv' := [(6, .int z70.1), (9, .int z70.1), (0, .ref aG), (1, .int j1), (2, .long j2), (4, .int j4), (5, .int j5), (7, .int j7), (8, .int j8)]) hC dX4_order_84 (by decide) rfl ?_
            refine g_iload hC 7 dX4_order_86 rfl ?_
            refine g_istore (lv' := [(5, .int j7), (6, .int z70.1), (9, .int z70.1), (0, .ref aG), (1, .int j1), (2, .long j2), (4, .int j4), (7, .int j7), (8, .int j8)]) hC dX4_order_88 (by decide) rfl ?_
            refine g_lv (lv' := [(0, .ref aG), (1, .int j1), (2, .long j2), (4, .int j4), (5, .int j7), (6, .int z70.1), (7, .int j7), (8, .int j8)]) [3, 4, 5, 6, 0, 1, 7, 8] rfl ?_
            exact t90 k53 hk53 j1 j2 j4 j7 z70.1 j7 j8 z70.2.1 z70.2.2.1 z70.2.2.2.1 z70.2.2.2.2 hf
  unfold fX4_order at hf
  refine g_iload_n hC 1 dX4_order_0 rfl rfl ?_
  refine g_lload_n hC 2 dX4_order_1 rfl rfl ?_
  obtain ⟨z2, hz2, hf⟩ := gd_b hf
  refine g_callSi (wr := [oO aG 3 [.ref aT, .ref aP, .ref aW1, .ref aW2, .ref aAC, .int xG_actCount, .ref aKE, .int xG_heardMinutes, .int xG_silentMinutes, .int xG_toldCount, .long xG_seedNow], oO aP 0 [.int xP_walkers, .int xP_light, .int xP_water, .int xP_nerves, .int xP_kinds], oO aW1 2 [.ref aP, .int xW1_row, .int xW1_quiets, .int xW1_place, .int xW1_turned], oO aW2 2 [.ref aP, .int xW2_row, .int xW2_quiets, .int xW2_place, .int xW2_turned]]) (wn := [oO aG 3 [.ref aT, .ref aP, .ref aW1, .ref aW2, .ref aAC, .int xG_actCount, .ref aKE, .int xG_heardMinutes, .int xG_silentMinutes, .int xG_toldCount, .long xG_seedNow], oO aP 0 [.int xP_walkers, .int xP_light, .int xP_water, .int xP_nerves, .int xP_kinds], oO aW1 2 [.ref aP, .int xW1_row, .int xW1_quiets, .int xW1_place, .int xW1_turned], oO aW2 2 [.ref aP, .int xW2_row, .int xW2_quiets, .int xW2_place, .int xW2_turned]]) hC [.int j1, .long j2] (cX4_isSong_m (kl X) (kD X) j1 j2 z2 hz2) gX4_order_X4_isSong rfl kyX4_isSong rfl [] [0, 1, 2, 3] [] [0, 1, 2, 3] rfl rfl rfl rfl (by decide) rfl rfl rfl ⟨rfl, rfl⟩ ⟨Nat.le_of_ble_eq_true rfl, Nat.le_of_ble_eq_true rfl⟩ (Nat.le_of_ble_eq_true rfl) rfl dX4_order_2 ?_
  refine g_if_eq (tgt := 18) hC dX4_order_5 (by decide) (fun hc => ?_) (fun hc => ?_)
  · replace hf := gd_t hc hf
    refine g_bipush (v := (-2 : Int32)) hC dX4_order_18 cb_m2 ?_
    exact hQ ((-2 : Int32), xW2_row, xW2_quiets, xW2_place, xW2_turned) _ _ (gd_s hf) dX4_order_20
  · replace hf := gd_f hc hf
    refine g_iload hC 3 dX4_order_8 rfl ?_
    refine g_iconst (v := (0 : Int32)) hC dX4_order_10 ci_0 ?_
    refine g_iconst (v := (1 : Int32)) hC dX4_order_11 ci_1 ?_
    obtain ⟨z12, hz12, hf⟩ := gd_b hf
    refine g_callSi (wr := [oO aG 3 [.ref aT, .ref aP, .ref aW1, .ref aW2, .ref aAC, .int xG_actCount, .ref aKE, .int xG_heardMinutes, .int xG_silentMinutes, .int xG_toldCount, .long xG_seedNow], oO aP 0 [.int xP_walkers, .int xP_light, .int xP_water, .int xP_nerves, .int xP_kinds], oO aW1 2 [.ref aP, .int xW1_row, .int xW1_quiets, .int xW1_place, .int xW1_turned], oO aW2 2 [.ref aP, .int xW2_row, .int xW2_quiets, .int xW2_place, .int xW2_turned]]) (wn := [oO aG 3 [.ref aT, .ref aP, .ref aW1, .ref aW2, .ref aAC, .int xG_actCount, .ref aKE, .int xG_heardMinutes, .int xG_silentMinutes, .int xG_toldCount, .long xG_seedNow], oO aP 0 [.int xP_walkers, .int xP_light, .int xP_water, .int xP_nerves, .int xP_kinds], oO aW1 2 [.ref aP, .int xW1_row, .int xW1_quiets, .int xW1_place, .int xW1_turned], oO aW2 2 [.ref aP, .int xW2_row, .int xW2_quiets, .int xW2_place, .int xW2_turned]]) hC [.int j4, .int (0 : Int32), .int (1 : Int32)] (cX4_within_m (kl X) (kD X) j4 (0 : Int32) (1 : Int32) z12 hz12) gX4_order_X4_within rfl kyX4_within rfl [] [0, 1, 2, 3] [] [0, 1, 2, 3] rfl rfl rfl rfl (by decide) rfl rfl rfl ⟨rfl, rfl⟩ ⟨Nat.le_of_ble_eq_true rfl, Nat.le_of_ble_eq_true rfl⟩ (Nat.le_of_ble_eq_true rfl) rfl dX4_order_12 ?_
    refine g_if_ne (tgt := 21) hC dX4_order_15 (by decide) (fun hc => ?_) (fun hc => ?_)
    · replace hf := gd_f hc hf
      refine g_aload_n hC 0 dX4_order_21 rfl rfl ?_
      refine g_get (C := RX4) (T := TX4) (N := 11) (v := .ref aW1) hC hinX4 0 2 rfl rfl (by decide) (List.mem_of_getElem? (i := 1) rfl) rfl dX4_order_22 ?_
      obtain ⟨z25, hz25, hf⟩ := gd_b hf
      refine g_callVi (wr := [oO aG 3 [.ref aT, .ref aP, .ref aW1, .ref aW2, .ref aAC, .int xG_actCount, .ref aKE, .int xG_heardMinutes, .int xG_silentMinutes, .int xG_toldCount, .long xG_seedNow], oO aP 0 [.int xP_walkers, .int xP_light, .int xP_water, .int xP_nerves, .int xP_kinds], oO aW2 2 [.ref aP, .int xW2_row, .int xW2_quiets, .int xW2_place, .int xW2_turned]]) (wn := [oO aG 3 [.ref aT, .ref aP, .ref aW1, .ref aW2, .ref aAC, .int xG_actCount, .ref aKE, .int xG_heardMinutes, .int xG_silentMinutes, .int xG_toldCount, .long xG_seedNow], oO aP 0 [.int xP_walkers, .int xP_light, .int xP_water, .int xP_nerves, .int xP_kinds], oO aW1 2 [.ref aP, .int xW1_row, .int xW1_quiets, .int xW1_place, .int xW1_turned], oO aW2 2 [.ref aP, .int xW2_row, .int xW2_quiets, .int xW2_place, .int xW2_turned]]) hC [] (cX3_members_m (kl X) (kD X) aP aW1 xW1_row xW1_quiets xW1_place xW1_turned z25 hz25) gX4_order_X3_members rfl kyX3_members rfl rfl rfl (q0 := 0) rfl [2] [0, 1, 3] [] [0, 1, 3, 2] rfl rfl rfl rfl (by decide) rfl rfl rfl ⟨rfl, rfl⟩ ⟨Nat.le_of_ble_eq_true rfl, Nat.le_of_ble_eq_true rfl⟩ (Nat.le_of_ble_eq_true rfl) rfl dX4_order_25 ?_
      obtain ⟨z28, hz28, hf⟩ := gd_b hf
      refine g_callSi (wr := [oO aG 3 [.ref aT, .ref aP, .ref aW1, .ref aW2, .ref aAC, .int xG_actCount, .ref aKE, .int xG_heardMinutes, .int xG_silentMinutes, .int xG_toldCount, .long xG_seedNow], oO aP 0 [.int xP_walkers, .int xP_light, .int xP_water, .int xP_nerves, .int xP_kinds], oO aW1 2 [.ref aP, .int xW1_row, .int xW1_quiets, .int xW1_place, .int xW1_turned], oO aW2 2 [.ref aP, .int xW2_row, .int xW2_quiets, .int xW2_place, .int xW2_turned]]) (wn := [oO aG 3 [.ref aT, .ref aP, .ref aW1, .ref aW2, .ref aAC, .int xG_actCount, .ref aKE, .int xG_heardMinutes, .int xG_silentMinutes, .int xG_toldCount, .long xG_seedNow], oO aP 0 [.int xP_walkers, .int xP_light, .int xP_water, .int xP_nerves, .int xP_kinds], oO aW1 2 [.ref aP, .int xW1_row, .int xW1_quiets, .int xW1_place, .int xW1_turned], oO aW2 2 [.ref aP, .int xW2_row, .int xW2_quiets, .int xW2_place, .int xW2_turned]]) hC [.int z25] (cX0_ascending_m (kl X) (kD X) z25 z28 hz28) gX4_order_X0_ascending rfl kyX0_ascending rfl [] [0, 1, 2, 3] [] [0, 1, 2, 3] rfl rfl rfl rfl (by decide) rfl rfl rfl ⟨rfl, rfl⟩ ⟨Nat.le_of_ble_eq_true rfl, Nat.le_of_ble_eq_true rfl⟩ (Nat.le_of_ble_eq_true rfl) rfl dX4_order_28 ?_
      refine g_istore (lv' := [(5, .int z28), (0, .ref aG), (1, .int j1), (2, .long j2), (4, .int j4)]) hC dX4_order_31 (by decide) rfl ?_
      refine g_aload_n hC 1 dX4_order_33 rfl rfl ?_
      refine g_iload hC 0 dX4_order_34 rfl ?_
      refine g_iload_n hC 2 dX4_order_36 rfl rfl ?_
      refine g_lload_n hC 3 dX4_order_37 rfl rfl ?_
      obtain ⟨z38, hz38, hf⟩ := gd_b hf
      refine g_callVi (wr := []) (wn := [oO aG 3 [.ref aT, .ref aP, .ref aW1, .ref aW2, .ref aAC, .int xG_actCount, .ref aKE, .int xG_heardMinutes, .int xG_silentMinutes, .int xG_toldCount, .long xG_seedNow], oO aP 0 [.int xP_walkers, .int xP_light, .int xP_water, .int xP_nerves, .int xP_kinds], oO aW1 2 [.ref aP, .int xW1_row, .int xW1_quiets, .int xW1_place, .int xW1_turned], oO aW2 2 [.ref aP, .int z38.2.1, .int z38.2.2.1, .int z38.2.2.2.1, .int z38.2.2.2.2]]) hC [.int z28, .int j1, .long j2] (cX4_leftOf_m (kl X) (kD X) aG aT aP aW1 aW2 aAC aKE xG_actCount xG_heardMinutes xG_silentMinutes xG_toldCount xG_seedNow xP_walkers xP_light xP_water xP_nerves xP_kinds xW1_row xW1_quiets xW1_place xW1_turned xW2_row xW2_quiets xW2_place xW2_turned z28 j1 j2 z38 hz38) gX4_order_X4_leftOf rfl kyX4_leftOf rfl rfl rfl (q0 := 0) rfl [0, 1, 2, 3] [] [] [0, 1, 2, 3] rfl rfl rfl rfl (by decide) rfl rfl rfl ⟨rfl, rfl⟩ ⟨Nat.le_of_ble_eq_true rfl, Nat.le_of_ble_eq_true rfl⟩ (Nat.le_of_ble_eq_true rfl) rfl dX4_order_38 ?_
      refine g_istore (lv' := [(6, .int z38.1), (5, .int z28), (0, .ref aG), (1, .int j1), (2, .long j2), (4, .int j4)]) hC dX4_order_41 (by decide) rfl ?_
      refine g_iload hC 1 dX4_order_43 rfl ?_
      obtain ⟨z45, hz45, hf⟩ := gd_b hf
      refine g_callSi (wr := [oO aG 3 [.ref aT, .ref aP, .ref aW1, .ref aW2, .ref aAC, .int xG_actCount, .ref aKE, .int xG_heardMinutes, .int xG_silentMinutes, .int xG_toldCount, .long xG_seedNow], oO aP 0 [.int xP_walkers, .int xP_light, .int xP_water, .int xP_nerves, .int xP_kinds], oO aW1 2 [.ref aP, .int xW1_row, .int xW1_quiets, .int xW1_place, .int xW1_turned], oO aW2 2 [.ref aP, .int z38.2.1, .int z38.2.2.1, .int z38.2.2.2.1, .int z38.2.2.2.2]]) (wn := [oO aG 3 [.ref aT, .ref aP, .ref aW1, .ref aW2, .ref aAC, .int xG_actCount, .ref aKE, .int xG_heardMinutes, .int xG_silentMinutes, .int xG_toldCount, .long xG_seedNow], oO aP 0 [.int xP_walkers, .int xP_light, .int xP_water, .int xP_nerves, .int xP_kinds], oO aW1 2 [.ref aP, .int xW1_row, .int xW1_quiets, .int xW1_place, .int xW1_turned], oO aW2 2 [.ref aP, .int z38.2.1, .int z38.2.2.1, .int z38.2.2.2.1, .int z38.2.2.2.2]]) hC [.int z28] (cX0_nextOrder_m (kl X) (kD X) z28 z45 hz45) gX4_order_X0_nextOrder rfl kyX0_nextOrder rfl [] [0, 1, 2, 3] [] [0, 1, 2, 3] rfl rfl rfl rfl (by decide) rfl rfl rfl ⟨rfl, rfl⟩ ⟨Nat.le_of_ble_eq_true rfl, Nat.le_of_ble_eq_true rfl⟩ (Nat.le_of_ble_eq_true rfl) rfl dX4_order_45 ?_
      refine g_istore (lv' := [(7, .int z45), (6, .int z38.1), (5, .int z28), (0, .ref aG), (1, .int j1), (2, .long j2), (4, .int j4)]) hC dX4_order_48 (by decide) rfl ?_
      refine g_iconst (v := (1 : Int32)) hC dX4_order_50 ci_1 ?_
      refine g_istore (lv' := [(8, .int (1 : Int32)), (7, .int z45), (6, .int z38.1), (5, .int z28), (0, .ref aG), (1, .int j1), (2, .long j2), (4, .int j4)]) hC dX4_order_51 (by decide) rfl ?_
      refine g_lv (lv' := [(0, .ref aG), (1, .int j1), (2, .long j2), (4, .int j4), (5, .int z28), (6, .int z38.1), (7, .int z45), (8, .int (1 : Int32))]) [4, 5, 6, 7, 3, 2, 1, 0] rfl ?_
      exact t53  fu j1 j2 j4 z28 z38.1 z45 (1 : Int32) z38.2.1 z38.2.2.1 z38.2.2.2.1 z38.2.2.2.2 hf
    · replace hf := gd_t hc hf
      refine g_bipush (v := (-2 : Int32)) hC dX4_order_18 cb_m2 ?_
      exact hQ ((-2 : Int32), xW2_row, xW2_quiets, xW2_place, xW2_turned) _ _ (gd_s hf) dX4_order_20
theorem kyX4_commonDivisor : yX4_commonDivisor.cls ≠ "java/lang/invoke/MethodHandle" ∧ yX4_commonDivisor.cls ≠ "java/lang/invoke/VarHandle" ∧ (parseMethodDescriptor yX4_commonDivisor.desc).map (fun d => d.parameters.length) = some 2 := by decide +kernel
set_option maxHeartbeats 4000000 in
set_option maxRecDepth 100000 in
theorem cX4_commonDivisor_m (l : Launch) (D : va_G)  (j0 : Int64) (j2 : Int64) (z : Int64) (hf : fX4_commonDivisor j0 j2 = some z) : ∀ sz : Nat, Met l yX4_commonDivisor wsX4_commonDivisor ({ frames := 0, cells := 0, slots := 0, locals := 0 } : Room) (kPre D [] [] sz [.long j0, .long j2]) (kQl D [] [] sz [] z) 0 0 (va_A [] sz) := by
  refine kMet_l (own := RX4) z (fun u => u) (fun u => []) rfl (by decide) rfl ⟨rfl, rfl⟩ (Nat.le_of_ble_eq_true rfl) ?_
  intro X hXl hXD hC hQ
  subst hXl
  subst hXD
  change kG X 0 [(0, .long j0), (2, .long j2)] [] []
  have t9 : ∀  (n : Nat) (j4 : Int64) (j6 : Int64) (j8 : Int32), lp (fun _ _ _ => none) (fX4_commonDivisor_b9_S ) n j4 j6 j8 = some z → kG X 9 [(4, .long j4), (6, .long j6), (8, .int j8)] [] [] := by
    intro  n
    induction n with
    | zero => intro j4 j6 j8 hf; cases hf
    | succ n hk9 =>
      intro j4 j6 j8 hf
      rw [lp_s] at hf
      revert hf hk9
      generalize lp (fun _ _ _ => none) (fX4_commonDivisor_b9_S ) n = k9
      intro hk9 hf
      unfold fX4_commonDivisor_b9_S at hf
      refine g_iload hC 2 dX4_commonDivisor_9 rfl ?_
      refine g_bipush (v := (100 : Int32)) hC dX4_commonDivisor_11 cb_100 ?_
      refine g_icmp_ge (tgt := 44) hC dX4_commonDivisor_13 (by decide) (fun hc => ?_) (fun hc => ?_)
      · replace hf := gd_t hc hf
        refine g_lload hC 0 dX4_commonDivisor_44 rfl ?_
        exact hQ (j4) _ _ (gd_s hf) dX4_commonDivisor_46
      · replace hf := gd_f hc hf
        refine g_lload hC 1 dX4_commonDivisor_16 rfl ?_
        refine g_lconst (v := (0 : Int64)) hC dX4_commonDivisor_18 rfl ?_
        refine g_lcmp hC dX4_commonDivisor_19 ?_
        refine g_if_eq (tgt := 44) hC dX4_commonDivisor_20 (by decide) (fun hc => ?_) (fun hc => ?_)
        · replace hf := gd_t hc hf
          refine g_lload hC 0 dX4_commonDivisor_44 rfl ?_
          exact hQ (j4) _ _ (gd_s hf) dX4_commonDivisor_46
        · replace hf := gd_f hc hf
          refine g_lload hC 0 dX4_commonDivisor_23 rfl ?_
          refine g_lload hC 1 dX4_commonDivisor_25 rfl ?_
          obtain ⟨hg, hf⟩ := gd_ga hf
          refine g_lrem hC dX4_commonDivisor_27 hg ?_
          refine g_lstore (lv' := [(9, .long (j4 - j4 / j6 * j6)), (4, .long j4), (6, .long j6), (8, .int j8)]) hC dX4_commonDivisor_28 (by decide) rfl ?_
          refine g_lload hC 2 dX4_commonDivisor_30 rfl ?_
          refine g_lstore (lv' := [(4, .long j6), (9, .long (j4 - j4 / j6 * j6)), (6, .long j6), (8, .int j8)]) hC dX4_commonDivisor_32 (by decide) rfl ?_
          refine g_lload hC 1 dX4_commonDivisor_34 rfl ?_
          refine g_lstore (lv' := [(6, .long (j4 - j4 / j6 * j6)), (4, .long j6), (9, .long (j4 - j4 / j6 * j6)), (8, .int j8)]) hC dX4_commonDivisor_36 (by decide) rfl ?_
          refine g_iinc (v := (j8 + (1 : Int32))) (lv' := [(8, .int (j8 + (1 : Int32))), (6, .long (j4 - j4 / j6 * j6)), (4, .long j6), (9, .long (j4 - j4 / j6 * j6))]) hC 3 dX4_commonDivisor_38 rfl (ii _ ci_1) (by decide) rfl ?_
          refine g_goto (tgt := 9) hC dX4_commonDivisor_41 (by decide) ?_
          refine g_lv (lv' := [(4, .long j6), (6, .long (j4 - j4 / j6 * j6)), (8, .int (j8 + (1 : Int32)))]) [2, 1, 0] rfl ?_
          exact hk9 j6 (j4 - j4 / j6 * j6) (j8 + (1 : Int32)) hf
  unfold fX4_commonDivisor at hf
  refine g_lload_n hC 0 dX4_commonDivisor_0 rfl rfl ?_
  refine g_lstore (lv' := [(4, .long j0), (0, .long j0), (2, .long j2)]) hC dX4_commonDivisor_1 (by decide) rfl ?_
  refine g_lload_n hC 2 dX4_commonDivisor_3 rfl rfl ?_
  refine g_lstore (lv' := [(6, .long j2), (4, .long j0), (0, .long j0), (2, .long j2)]) hC dX4_commonDivisor_4 (by decide) rfl ?_
  refine g_iconst (v := (0 : Int32)) hC dX4_commonDivisor_6 ci_0 ?_
  refine g_istore (lv' := [(8, .int (0 : Int32)), (6, .long j2), (4, .long j0), (0, .long j0), (2, .long j2)]) hC dX4_commonDivisor_7 (by decide) rfl ?_
  refine g_lv (lv' := [(4, .long j0), (6, .long j2), (8, .int (0 : Int32))]) [2, 1, 0] rfl ?_
  exact t9  fu j0 j2 (0 : Int32) hf
theorem kyX4_fraction : yX4_fraction.cls ≠ "java/lang/invoke/MethodHandle" ∧ yX4_fraction.cls ≠ "java/lang/invoke/VarHandle" ∧ (parseMethodDescriptor yX4_fraction.desc).map (fun d => d.parameters.length) = some 3 := by decide +kernel
set_option maxHeartbeats 4000000 in
set_option maxRecDepth 100000 in
theorem cX4_fraction_m (l : Launch) (D : va_G)  (j0 : Int64) (j2 : Int64) (j4 : Int32) (z : Int32) (hf : fX4_fraction j0 j2 j4 = some z) : ∀ sz : Nat, Met l yX4_fraction wsX4_fraction ({ frames := 1, cells := 0, slots := 0, locals := 30 } : Room) (kPre D [] [] sz [.long j0, .long j2, .int j4]) (kQi D [] [] sz [] z) 0 0 (va_A [] sz) := by
  refine kMet_i (own := RX4) z (fun u => u) (fun u => []) rfl (by decide) rfl ⟨rfl, rfl⟩ (Nat.le_of_ble_eq_true rfl) ?_
  intro X hXl hXD hC hQ
  subst hXl
  subst hXD
  change kG X 0 [(0, .long j0), (2, .long j2), (4, .int j4)] [] []
  have t29 : ∀  (j5 : Int64) (y0 : Int64), fX4_fraction_b29  j5 y0 = some z → kG X 29 [(5, .long j5)] [.long y0] [] := by
    intro j5 y0 hf
    unfold fX4_fraction_b29 at hf
    refine g_lload hC 0 dX4_fraction_29 rfl ?_
    obtain ⟨hg, hf⟩ := gd_ga hf
    refine g_ldiv hC dX4_fraction_31 hg ?_
    refine g_l2i hC dX4_fraction_32 ?_
    exact hQ ((y0 / j5).toInt32) _ _ (gd_s hf) dX4_fraction_33
  unfold fX4_fraction at hf
  refine g_lload_n hC 0 dX4_fraction_0 rfl rfl ?_
  refine g_absl hC (List.mem_of_getElem? (i := 1) rfl) (List.mem_of_getElem? (i := 2) rfl) (List.mem_of_getElem? (i := 3) rfl) (List.mem_of_getElem? (i := 4) rfl) (Nat.le_of_ble_eq_true rfl) (Nat.le_of_ble_eq_true rfl) dX4_fraction_1 ?_
  refine g_lload_n hC 1 dX4_fraction_4 rfl rfl ?_
  obtain ⟨z5, hz5, hf⟩ := gd_b hf
  refine g_callSl (wr := []) (wn := []) hC [.long (if 0 < j0 then j0 else -j0), .long j2] (cX4_commonDivisor_m (kl X) (kD X) (if 0 < j0 then j0 else -j0) j2 z5 hz5) gX4_fraction_X4_commonDivisor rfl kyX4_commonDivisor rfl [] [] [] [] rfl rfl rfl rfl (by decide) rfl rfl rfl ⟨rfl, rfl⟩ ⟨Nat.le_of_ble_eq_true rfl, Nat.le_of_ble_eq_true rfl⟩ (Nat.le_of_ble_eq_true rfl) rfl dX4_fraction_5 ?_
  refine g_lstore (lv' := [(5, .long z5), (0, .long j0), (2, .long j2), (4, .int j4)]) hC dX4_fraction_8 (by decide) rfl ?_
  refine g_lload hC 0 dX4_fraction_10 rfl ?_
  refine g_lconst (v := (0 : Int64)) hC dX4_fraction_12 rfl ?_
  refine g_lcmp hC dX4_fraction_13 ?_
  refine g_if_ne (tgt := 19) hC dX4_fraction_14 (by decide) (fun hc => ?_) (fun hc => ?_)
  · replace hf := gd_f hc hf
    refine g_iload hC 3 dX4_fraction_19 rfl ?_
    refine g_if_eq (tgt := 28) hC dX4_fraction_21 (by decide) (fun hc => ?_) (fun hc => ?_)
    · replace hf := gd_t hc hf
      refine g_lload_n hC 2 dX4_fraction_28 rfl rfl ?_
      refine g_lv (lv' := [(5, .long z5)]) [0] rfl ?_
      exact t29  z5 j2 hf
    · replace hf := gd_f hc hf
      refine g_lload_n hC 1 dX4_fraction_24 rfl rfl ?_
      refine g_goto (tgt := 29) hC dX4_fraction_25 (by decide) ?_
      refine g_lv (lv' := [(5, .long z5)]) [0] rfl ?_
      exact t29  z5 j0 hf
  · replace hf := gd_t hc hf
    refine g_iconst (v := (0 : Int32)) hC dX4_fraction_17 ci_0 ?_
    exact hQ ((0 : Int32)) _ _ (gd_s hf) dX4_fraction_18
theorem kyX4_factorial : yX4_factorial.cls ≠ "java/lang/invoke/MethodHandle" ∧ yX4_factorial.cls ≠ "java/lang/invoke/VarHandle" ∧ (parseMethodDescriptor yX4_factorial.desc).map (fun d => d.parameters.length) = some 1 := by decide +kernel
set_option maxHeartbeats 4000000 in
set_option maxRecDepth 100000 in
theorem cX4_factorial_m (l : Launch) (D : va_G)  (j0 : Int32) (z : Int32) (hf : fX4_factorial j0 = some z) : ∀ sz : Nat, Met l yX4_factorial wsX4_factorial ({ frames := 0, cells := 0, slots := 0, locals := 0 } : Room) (kPre D [] [] sz [.int j0]) (kQi D [] [] sz [] z) 0 0 (va_A [] sz) := by
  refine kMet_i (own := RX4) z (fun u => u) (fun u => []) rfl (by decide) rfl ⟨rfl, rfl⟩ (Nat.le_of_ble_eq_true rfl) ?_
  intro X hXl hXD hC hQ
  subst hXl
  subst hXD
  change kG X 0 [(0, .int j0)] [] []
  have t4 : ∀  (n : Nat) (j0 : Int32) (j1 : Int32) (j2 : Int32), lp (fun _ _ _ => none) (fX4_factorial_b4_S ) n j0 j1 j2 = some z → kG X 4 [(0, .int j0), (1, .int j1), (2, .int j2)] [] [] := by
    intro  n
    induction n with
    | zero => intro j0 j1 j2 hf; cases hf
    | succ n hk4 =>
      intro j0 j1 j2 hf
      rw [lp_s] at hf
      revert hf hk4
      generalize lp (fun _ _ _ => none) (fX4_factorial_b4_S ) n = k4
      intro hk4 hf
      unfold fX4_factorial_b4_S at hf
      refine g_iload_n hC 2 dX4_factorial_4 rfl rfl ?_
      refine g_iload_n hC 0 dX4_factorial_5 rfl rfl ?_
      refine g_icmp_gt (tgt := 19) hC dX4_factorial_6 (by decide) (fun hc => ?_) (fun hc => ?_)
      · replace hf := gd_t hc hf
        refine g_iload_n hC 1 dX4_factorial_19 rfl rfl ?_
        exact hQ (j1) _ _ (gd_s hf) dX4_factorial_20
      · replace hf := gd_f hc hf
        refine g_iload_n hC 1 dX4_factorial_9 rfl rfl ?_
        refine g_iload_n hC 2 dX4_factorial_10 rfl rfl ?_
        refine g_imul hC dX4_factorial_11 ?_
        refine g_istore_n (lv' := [(1, .int (j1 * j2)), (0, .int j0), (2, .int j2)]) hC dX4_factorial_12 rfl (by decide) rfl ?_
        refine g_iinc (v := (j2 + (1 : Int32))) (lv' := [(2, .int (j2 + (1 : Int32))), (1, .int (j1 * j2)), (0, .int j0)]) hC 2 dX4_factorial_13 rfl (ii _ ci_1) (by decide) rfl ?_
        refine g_goto (tgt := 4) hC dX4_factorial_16 (by decide) ?_
        refine g_lv (lv' := [(0, .int j0), (1, .int (j1 * j2)), (2, .int (j2 + (1 : Int32)))]) [2, 1, 0] rfl ?_
        exact hk4 j0 (j1 * j2) (j2 + (1 : Int32)) hf
  unfold fX4_factorial at hf
  refine g_iconst (v := (1 : Int32)) hC dX4_factorial_0 ci_1 ?_
  refine g_istore_n (lv' := [(1, .int (1 : Int32)), (0, .int j0)]) hC dX4_factorial_1 rfl (by decide) rfl ?_
  refine g_iconst (v := (2 : Int32)) hC dX4_factorial_2 ci_2 ?_
  refine g_istore_n (lv' := [(2, .int (2 : Int32)), (1, .int (1 : Int32)), (0, .int j0)]) hC dX4_factorial_3 rfl (by decide) rfl ?_
  refine g_lv (lv' := [(0, .int j0), (1, .int (1 : Int32)), (2, .int (2 : Int32))]) [2, 1, 0] rfl ?_
  exact t4  fu j0 (1 : Int32) (2 : Int32) hf
theorem kyX4_share : yX4_share.cls = RX4 ∧ yX4_share.cls ≠ "java/lang/invoke/MethodHandle" ∧ yX4_share.cls ≠ "java/lang/invoke/VarHandle" ∧ (parseMethodDescriptor yX4_share.desc).map (fun d => d.parameters.length) = some 4 := by decide +kernel
set_option maxHeartbeats 4000000 in
set_option maxRecDepth 100000 in
theorem cX4_share_m (l : Launch) (D : va_G) (aG aT aP aW1 aW2 aAC aKE : Nat) (xG_actCount : Int32) (xG_heardMinutes : Int32) (xG_silentMinutes : Int32) (xG_toldCount : Int32) (xG_seedNow : Int64) (xP_walkers : Int32) (xP_light : Int32) (xP_water : Int32) (xP_nerves : Int32) (xP_kinds : Int32) (xW1_row : Int32) (xW1_quiets : Int32) (xW1_place : Int32) (xW1_turned : Int32) (xW2_row : Int32) (xW2_quiets : Int32) (xW2_place : Int32) (xW2_turned : Int32) (j1 : Int32) (j2 : Int32) (j3 : Int64) (j5 : Int32) (z : Int32 × Int32 × Int32 × Int32 × Int32) (hf : fX4_share j1 j2 j3 j5 xP_walkers xP_light xP_water xP_nerves xP_kinds xW1_row xW1_place xW2_row xW2_quiets xW2_place xW2_turned = some z) : ∀ sz : Nat, Met l yX4_share wsX4_share ({ frames := 6, cells := 0, slots := 0, locals := 141 } : Room) (kPre D [] [oO aG 3 [.ref aT, .ref aP, .ref aW1, .ref aW2, .ref aAC, .int xG_actCount, .ref aKE, .int xG_heardMinutes, .int xG_silentMinutes, .int xG_toldCount, .long xG_seedNow], oO aP 0 [.int xP_walkers, .int xP_light, .int xP_water, .int xP_nerves, .int xP_kinds], oO aW1 2 [.ref aP, .int xW1_row, .int xW1_quiets, .int xW1_place, .int xW1_turned], oO aW2 2 [.ref aP, .int xW2_row, .int xW2_quiets, .int xW2_place, .int xW2_turned]] sz [.ref aG, .int j1, .int j2, .long j3, .int j5]) (kQi D [] [oO aG 3 [.ref aT, .ref aP, .ref aW1, .ref aW2, .ref aAC, .int xG_actCount, .ref aKE, .int xG_heardMinutes, .int xG_silentMinutes, .int xG_toldCount, .long xG_seedNow], oO aP 0 [.int xP_walkers, .int xP_light, .int xP_water, .int xP_nerves, .int xP_kinds], oO aW1 2 [.ref aP, .int xW1_row, .int xW1_quiets, .int xW1_place, .int xW1_turned], oO aW2 2 [.ref aP, .int xW2_row, .int xW2_quiets, .int xW2_place, .int xW2_turned]] sz [oO aG 3 [.ref aT, .ref aP, .ref aW1, .ref aW2, .ref aAC, .int xG_actCount, .ref aKE, .int xG_heardMinutes, .int xG_silentMinutes, .int xG_toldCount, .long xG_seedNow], oO aP 0 [.int xP_walkers, .int xP_light, .int xP_water, .int xP_nerves, .int xP_kinds], oO aW1 2 [.ref aP, .int xW1_row, .int xW1_quiets, .int xW1_place, .int xW1_turned], oO aW2 2 [.ref aP, .int z.2.1, .int z.2.2.1, .int z.2.2.2.1, .int z.2.2.2.2]] z.1) 0 0 (va_A [oO aG 3 [.ref aT, .ref aP, .ref aW1, .ref aW2, .ref aAC, .int xG_actCount, .ref aKE, .int xG_heardMinutes, .int xG_silentMinutes, .int xG_toldCount, .long xG_seedNow], oO aP 0 [.int xP_walkers, .int xP_light, .int xP_water, .int xP_nerves, .int xP_kinds], oO aW1 2 [.ref aP, .int xW1_row, .int xW1_quiets, .int xW1_place, .int xW1_turned], oO aW2 2 [.ref aP, .int xW2_row, .int xW2_quiets, .int xW2_place, .int xW2_turned]] sz) := by
  refine kMet_i (own := RX4) z (fun u => u.1) (fun u => [oO aG 3 [.ref aT, .ref aP, .ref aW1, .ref aW2, .ref aAC, .int xG_actCount, .ref aKE, .int xG_heardMinutes, .int xG_silentMinutes, .int xG_toldCount, .long xG_seedNow], oO aP 0 [.int xP_walkers, .int xP_light, .int xP_water, .int xP_nerves, .int xP_kinds], oO aW1 2 [.ref aP, .int xW1_row, .int xW1_quiets, .int xW1_place, .int xW1_turned], oO aW2 2 [.ref aP, .int u.2.1, .int u.2.2.1, .int u.2.2.2.1, .int u.2.2.2.2]]) rfl (by decide) rfl ⟨rfl, rfl⟩ (Nat.le_of_ble_eq_true rfl) ?_
  intro X hXl hXD hC hQ
  subst hXl
  subst hXD
  change kG X 0 [(0, .ref aG), (1, .int j1), (2, .int j2), (3, .long j3), (5, .int j5)] [] [oO aG 3 [.ref aT, .ref aP, .ref aW1, .ref aW2, .ref aAC, .int xG_actCount, .ref aKE, .int xG_heardMinutes, .int xG_silentMinutes, .int xG_toldCount, .long xG_seedNow], oO aP 0 [.int xP_walkers, .int xP_light, .int xP_water, .int xP_nerves, .int xP_kinds], oO aW1 2 [.ref aP, .int xW1_row, .int xW1_quiets, .int xW1_place, .int xW1_turned], oO aW2 2 [.ref aP, .int xW2_row, .int xW2_quiets, .int xW2_place, .int xW2_turned]]
  have hinX4 : ∀ w ∈ wsX40, w ∈ wsX4_share := fun _ h => List.mem_cons_of_mem _ (List.mem_append_left _ (List.mem_append_left _ (List.mem_append_right _ h)))
  have t165 : ∀ (k83 : Int32 → Int32 → Int64 → Int32 → Int32 → Int32 → Int32 → Int64 → Int32 → Int32 → Int32 → Int32 → Int32 → Option (Int32 × Int32 × Int32 × Int32 × Int32)) (hk83 : ∀ (j1 : Int32) (j2 : Int32) (j3 : Int64) (j5 : Int32) (j6 : Int32) (j7 : Int32) (j8 : Int32) (j9 : Int64) (j11 : Int32) (xW2_row : Int32) (xW2_quiets : Int32) (xW2_place : Int32) (xW2_turned : Int32), k83 j1 j2 j3 j5 j6 j7 j8 j9 j11 xW2_row xW2_quiets xW2_place xW2_turned = some z → kG X 83 [(0, .ref aG), (1, .int j1), (2, .int j2), (3, .long j3), (5, .int j5), (6, .int j6), (7, .int j7), (8, .int j8), (9, .long j9), (11, .int j11)] [] [oO aG 3 [.ref aT, .ref aP, .ref aW1, .ref aW2, .ref aAC, .int xG_actCount, .ref aKE, .int xG_heardMinutes, .int xG_silentMinutes, .int xG_toldCount, .long xG_seedNow], oO aP 0 [.int xP_walkers, .int xP_light, .int xP_water, .int xP_nerves, .int xP_kinds], oO aW1 2 [.ref aP, .int xW1_row, .int xW1_quiets, .int xW1_place, .int xW1_turned], oO aW2 2 [.ref aP, .int xW2_row, .int xW2_quiets, .int xW2_place, .int xW2_turned]]) (j1 : Int32) (j2 : Int32) (j3 : Int64) (j5 : Int32) (j6 : Int32) (j7 : Int32) (j8 : Int32) (j9 : Int64) (j11 : Int32) (xW2_row : Int32) (xW2_quiets : Int32) (xW2_place : Int32) (xW2_turned : Int32), fX4_share_b165 xP_walkers xP_light xP_water xP_nerves xP_kinds xW1_row xW1_place k83 j1 j2 j3 j5 j6 j7 j8 j9 j11 xW2_row xW2_quiets xW2_place xW2_turned = some z → kG X 165 [(0, .ref aG), (1, .int j1), (2, .int j2), (3, .long j3), (5, .int j5), (6, .int j6), (7, .int j7), (8, .int j8), (9, .long j9), (11, .int j11)] [] [oO aG 3 [.ref aT, .ref aP, .ref aW1, .ref aW2, .ref aAC, .int xG_actCount, .ref aKE, .int xG_heardMinutes, .int xG_silentMinutes, .int xG_toldCount, .long xG_seedNow], oO aP 0 [.int xP_walkers, .int xP_light, .int xP_water, .int xP_nerves, .int xP_kinds], oO aW1 2 [.ref aP, .int xW1_row, .int xW1_quiets, .int xW1_place, .int xW1_turned], oO aW2 2 [.ref aP, .int xW2_row, .int xW2_quiets, .int xW2_place, .int xW2_turned]] := by
    intro k83 hk83 j1 j2 j3 j5 j6 j7 j8 j9 j11 xW2_row xW2_quiets xW2_place xW2_turned hf
    unfold fX4_share_b165 at hf
    refine g_iinc (v := (j11 + (1 : Int32))) (lv' := [(11, .int (j11 + (1 : Int32))), (0, .ref aG), (1, .int j1), (2, .int j2), (3, .long j3), (5, .int j5), (6, .int j6), (7, .int j7), (8, .int j8), (9, .long j9)]) hC 9 dX4_share_165 rfl (ii _ ci_1) (by decide) rfl ?_
    refine g_goto (tgt := 83) hC dX4_share_168 (by decide) ?_
    refine g_lv (lv' := [(0, .ref aG), (1, .int j1), (2, .int j2), (3, .long j3), (5, .int j5), (6, .int j6), (7, .int j7), (8, .int j8), (9, .long j9), (11, .int (j11 + (1 : Int32)))]) [1, 2, 3, 4, 5, 6, 7, 8, 9, 0] rfl ?_
    exact hk83 j1 j2 j3 j5 j6 j7 j8 j9 (j11 + (1 : Int32)) xW2_row xW2_quiets xW2_place xW2_turned hf
  have t83 : ∀  (n : Nat) (j1 : Int32) (j2 : Int32) (j3 : Int64) (j5 : Int32) (j6 : Int32) (j7 : Int32) (j8 : Int32) (j9 : Int64) (j11 : Int32) (xW2_row : Int32) (xW2_quiets : Int32) (xW2_place : Int32) (xW2_turned : Int32), lp (fun _ _ _ _ _ _ _ _ _ _ _ _ _ => none) (fX4_share_b83_S xP_walkers xP_light xP_water xP_nerves xP_kinds xW1_row xW1_place ) n j1 j2 j3 j5 j6 j7 j8 j9 j11 xW2_row xW2_quiets xW2_place xW2_turned = some z → kG X 83 [(0, .ref aG), (1, .int j1), (2, .int j2), (3, .long j3), (5, .int j5), (6, .int j6), (7, .int j7), (8, .int j8), (9, .long j9), (11, .int j11)] [] [oO aG 3 [.ref aT, .ref aP, .ref aW1, .ref aW2, .ref aAC, .int xG_actCount, .ref aKE, .int xG_heardMinutes, .int xG_silentMinutes, .int xG_toldCount, .long xG_seedNow], oO aP 0 [.int xP_walkers, .int xP_light, .int xP_water, .int xP_nerves, .int xP_kinds], oO aW1 2 [.ref aP, .int xW1_row, .int xW1_quiets, .int xW1_place, .int xW1_turned], oO aW2 2 [.ref aP, .int xW2_row, .int xW2_quiets, .int xW2_place, .int xW2_turned]] := by
    intro  n
    induction n with
    | zero => intro j1 j2 j3 j5 j6 j7 j8 j9 j11 xW2_row xW2_quiets xW2_place xW2_turned hf; cases hf
    | succ n hk83 =>
      intro j1 j2 j3 j5 j6 j7 j8 j9 j11 xW2_row xW2_quiets xW2_place xW2_turned hf
      rw [lp_s] at hf
      revert hf hk83
      generalize lp (fun _ _ _ _ _ _ _ _ _ _ _ _ _ => none) (fX4_share_b83_S xP_walkers xP_light xP_water xP_nerves xP_kinds xW1_row xW1_place ) n = k83
      intro hk83 hf
      unfold fX4_share_b83_S at hf
      refine g_iload hC 9 dX4_share_83 rfl ?_
      refine g_iload hC 6 dX4_share_85 rfl ?_
      refine g_icmp_gt (tgt := 171) hC dX4_share_87 (by decide) (fun hc => ?_) (fun hc => ?_)
      · replace hf := gd_t hc hf
        refine g_lload hC 8 dX4_share_171 rfl ?_
        refine g_iload hC 7 dX4_share_173 rfl ?_
        obtain ⟨z175, hz175, hf⟩ := gd_b hf
        refine g_callSi (wr := [oO aG 3 [.ref aT, .ref aP, .ref aW1, .ref aW2, .ref aAC, .int xG_actCount, .ref aKE, .int xG_heardMinutes, .int xG_silentMinutes, .int xG_toldCount, .long xG_seedNow], oO aP 0 [.int xP_walkers, .int xP_light, .int xP_water, .int xP_nerves, .int xP_kinds], oO aW1 2 [.ref aP, .int xW1_row, .int xW1_quiets, .int xW1_place, .int xW1_turned], oO aW2 2 [.ref aP, .int xW2_row, .int xW2_quiets, .int xW2_place, .int xW2_turned]]) (wn := [oO aG 3 [.ref aT, .ref aP, .ref aW1, .ref aW2, .ref aAC, .int xG_actCount, .ref aKE, .int xG_heardMinutes, .int xG_silentMinutes, .int xG_toldCount, .long xG_seedNow], oO aP 0 [.int xP_walkers, .int xP_light, .int xP_water, .int xP_nerves, .int xP_kinds], oO aW1 2 [.ref aP, .int xW1_row, .int xW1_quiets, .int xW1_place, .int xW1_turned], oO aW2 2 [.ref aP, .int xW2_row, .int xW2_quiets, .int xW2_place, .int xW2_turned]]) hC [.int j8] (cX4_factorial_m (kl X) (kD X) j8 z175 hz175) gX4_share_X4_factorial rfl kyX4_factorial rfl [] [0, 1, 2, 3] [] [0, 1, 2, 3] rfl rfl rfl rfl (by decide) rfl rfl rfl ⟨rfl, rfl⟩ ⟨Nat.le_of_ble_eq_true rfl, Nat.le_of_ble_eq_true rfl⟩ (Nat.le_of_ble_eq_true rfl) rfl dX4_share_175 ?_
        refine g_i2l hC dX4_share_178 ?_
        refine g_iload hC 4 dX4_share_179 rfl ?_
        obtain ⟨z181, hz181, hf⟩ := gd_b hf
        refine g_callSi (wr := [oO aG 3 [.ref aT, .ref aP, .ref aW1, .ref aW2, .ref aAC, .int xG_actCount, .ref aKE, .int xG_heardMinutes, .int xG_silentMinutes, .int xG_toldCount, .long xG_seedNow], oO aP 0 [.int xP_walkers, .int xP_light, .int xP_water, .int xP_nerves, .int xP_kinds], oO aW1 2 [.ref aP, .int xW1_row, .int xW1_quiets, .int xW1_place, .int xW1_turned], oO aW2 2 [.ref aP, .int xW2_row, .int xW2_quiets, .int xW2_place, .int xW2_turned]]) (wn := [oO aG 3 [.ref aT, .ref aP, .ref aW1, .ref aW2, .ref aAC, .int xG_actCount, .ref aKE, .int xG_heardMinutes, .int xG_silentMinutes, .int xG_toldCount, .long xG_seedNow], oO aP 0 [.int xP_walkers, .int xP_light, .int xP_water, .int xP_nerves, .int xP_kinds], oO aW1 2 [.ref aP, .int xW1_row, .int xW1_quiets, .int xW1_place, .int xW1_turned], oO aW2 2 [.ref aP, .int xW2_row, .int xW2_quiets, .int xW2_place, .int xW2_turned]]) hC [.long j9, .long z175.toInt64, .int j5] (cX4_fraction_m (kl X) (kD X) j9 z175.toInt64 j5 z181 hz181) gX4_share_X4_fraction rfl kyX4_fraction rfl [] [0, 1, 2, 3] [] [0, 1, 2, 3] rfl rfl rfl rfl (by decide) rfl rfl rfl ⟨rfl, rfl⟩ ⟨Nat.le_of_ble_eq_true rfl, Nat.le_of_ble_eq_true rfl⟩ (Nat.le_of_ble_eq_true rfl) rfl dX4_share_181 ?_
        exact hQ (z181, xW2_row, xW2_quiets, xW2_place, xW2_turned) _ _ (gd_s hf) dX4_share_184
      · replace hf := gd_f hc hf
        refine g_iload hC 9 dX4_share_90 rfl ?_
        refine g_iload hC 6 dX4_share_92 rfl ?_
        refine g_iconst (v := (-1 : Int32)) hC dX4_share_94 ci_m1 ?_
        refine g_ixor hC dX4_share_95 ?_
        refine g_iand hC dX4_share_96 ?_
        refine g_if_ne (tgt := 165) hC dX4_share_97 (by decide) (fun hc => ?_) (fun hc => ?_)
        · replace hf := gd_f hc hf
          exact t165 k83 hk83 j1 j2 j3 j5 j6 j7 j8 j9 j11 xW2_row xW2_quiets xW2_place xW2_turned hf
        · replace hf := gd_t hc hf
          refine g_iload hC 9 dX4_share_100 rfl ?_
          obtain ⟨z102, hz102, hf⟩ := gd_b hf
          refine g_callSi (wr := [oO aG 3 [.ref aT, .ref aP, .ref aW1, .ref aW2, .ref aAC, .int xG_actCount, .ref aKE, .int xG_heardMinutes, .int xG_silentMinutes, .int xG_toldCount, .long xG_seedNow], oO aP 0 [.int xP_walkers, .int xP_light, .int xP_water, .int xP_nerves, .int xP_kinds], oO aW1 2 [.ref aP, .int xW1_row, .int xW1_quiets, .int xW1_place, .int xW1_turned], oO aW2 2 [.ref aP, .int xW2_row, .int xW2_quiets, .int xW2_place, .int xW2_turned]]) (wn := [oO aG 3 [.ref aT, .ref aP, .ref aW1, .ref aW2, .ref aAC, .int xG_actCount, .ref aKE, .int xG_heardMinutes, .int xG_silentMinutes, .int xG_toldCount, .long xG_seedNow], oO aP 0 [.int xP_walkers, .int xP_light, .int xP_water, .int xP_nerves, .int xP_kinds], oO aW1 2 [.ref aP, .int xW1_row, .int xW1_quiets, .int xW1_place, .int xW1_turned], oO aW2 2 [.ref aP, .int xW2_row, .int xW2_quiets, .int xW2_place, .int xW2_turned]]) hC [.int j11] (cJ6_bitCount_0f7a4_m (kl X) (kD X) j11 z102 hz102) gX4_share_J6_bitCount_0f7a4 rfl kyJ6_bitCount_0f7a4 rfl [] [0, 1, 2, 3] [] [0, 1, 2, 3] rfl rfl rfl rfl (by decide) rfl rfl rfl ⟨rfl, rfl⟩ ⟨Nat.le_of_ble_eq_true rfl, Nat.le_of_ble_eq_true rfl⟩ (Nat.le_of_ble_eq_true rfl) rfl dX4_share_102 ?_
          refine g_istore (lv' := [(12, .int z102), (0, .ref aG), (1, .int j1), (2, .int j2), (3, .long j3), (5, .int j5), (6, .int j6), (7, .int j7), (8, .int j8), (9, .long j9), (11, .int j11)]) hC dX4_share_105 (by decide) rfl ?_
          refine g_aload_n hC 1 dX4_share_107 rfl rfl ?_
          refine g_iload hC 6 dX4_share_108 rfl ?_
          refine g_iload hC 10 dX4_share_110 rfl ?_
          refine g_iconst (v := (1 : Int32)) hC dX4_share_112 ci_1 ?_
          refine g_iload_n hC 2 dX4_share_113 rfl rfl ?_
          refine g_ishl hC dX4_share_114 ?_
          refine g_ior hC dX4_share_115 ?_
          obtain ⟨z116, hz116, hf⟩ := gd_b hf
          refine g_callSi (wr := [oO aG 3 [.ref aT, .ref aP, .ref aW1, .ref aW2, .ref aAC, .int xG_actCount, .ref aKE, .int xG_heardMinutes, .int xG_silentMinutes, .int xG_toldCount, .long xG_seedNow], oO aP 0 [.int xP_walkers, .int xP_light, .int xP_water, .int xP_nerves, .int xP_kinds], oO aW1 2 [.ref aP, .int xW1_row, .int xW1_quiets, .int xW1_place, .int xW1_turned], oO aW2 2 [.ref aP, .int xW2_row, .int xW2_quiets, .int xW2_place, .int xW2_turned]]) (wn := [oO aG 3 [.ref aT, .ref aP, .ref aW1, .ref aW2, .ref aAC, .int xG_actCount, .ref aKE, .int xG_heardMinutes, .int xG_silentMinutes, .int xG_toldCount, .long xG_seedNow], oO aP 0 [.int xP_walkers, .int xP_light, .int xP_water, .int xP_nerves, .int xP_kinds], oO aW1 2 [.ref aP, .int xW1_row, .int xW1_quiets, .int xW1_place, .int xW1_turned], oO aW2 2 [.ref aP, .int xW2_row, .int xW2_quiets, .int xW2_place, .int xW2_turned]]) hC [.int j6, .int (j11 ||| ((1 : Int32) <<< (j1 &&& 31)))] (cX0_only_m (kl X) (kD X) j6 (j11 ||| ((1 : Int32) <<< (j1 &&& 31))) z116 hz116) gX4_share_X0_only rfl kyX0_only rfl [] [0, 1, 2, 3] [] [0, 1, 2, 3] rfl rfl rfl rfl (by decide) rfl rfl rfl ⟨rfl, rfl⟩ ⟨Nat.le_of_ble_eq_true rfl, Nat.le_of_ble_eq_true rfl⟩ (Nat.le_of_ble_eq_true rfl) rfl dX4_share_116 ?_
          refine g_iload_n hC 3 dX4_share_119 rfl rfl ?_
          refine g_lload_n hC 4 dX4_share_120 rfl rfl ?_
          obtain ⟨z121, hz121, hf⟩ := gd_b hf
          refine g_callVi (wr := []) (wn := [oO aG 3 [.ref aT, .ref aP, .ref aW1, .ref aW2, .ref aAC, .int xG_actCount, .ref aKE, .int xG_heardMinutes, .int xG_silentMinutes, .int xG_toldCount, .long xG_seedNow], oO aP 0 [.int xP_walkers, .int xP_light, .int xP_water, .int xP_nerves, .int xP_kinds], oO aW1 2 [.ref aP, .int xW1_row, .int xW1_quiets, .int xW1_place, .int xW1_turned], oO aW2 2 [.ref aP, .int z121.2.1, .int z121.2.2.1, .int z121.2.2.2.1, .int z121.2.2.2.2]]) hC [.int z116, .int j2, .long j3] (cX4_leftOf_m (kl X) (kD X) aG aT aP aW1 aW2 aAC aKE xG_actCount xG_heardMinutes xG_silentMinutes xG_toldCount xG_seedNow xP_walkers xP_light xP_water xP_nerves xP_kinds xW1_row xW1_quiets xW1_place xW1_turned xW2_row xW2_quiets xW2_place xW2_turned z116 j2 j3 z121 hz121) gX4_share_X4_leftOf rfl kyX4_leftOf rfl rfl rfl (q0 := 0) rfl [0, 1, 2, 3] [] [] [0, 1, 2, 3] rfl rfl rfl rfl (by decide) rfl rfl rfl ⟨rfl, rfl⟩ ⟨Nat.le_of_ble_eq_true rfl, Nat.le_of_ble_eq_true rfl⟩ (Nat.le_of_ble_eq_true rfl) rfl dX4_share_121 ?_
          refine g_aload_n hC 1 dX4_share_124 rfl rfl ?_
          refine g_iload hC 6 dX4_share_125 rfl ?_
          refine g_iload hC 10 dX4_share_127 rfl ?_
          obtain ⟨z129, hz129, hf⟩ := gd_b hf
          refine g_callSi (wr := [oO aG 3 [.ref aT, .ref aP, .ref aW1, .ref aW2, .ref aAC, .int xG_actCount, .ref aKE, .int xG_heardMinutes, .int xG_silentMinutes, .int xG_toldCount, .long xG_seedNow], oO aP 0 [.int xP_walkers, .int xP_light, .int xP_water, .int xP_nerves, .int xP_kinds], oO aW1 2 [.ref aP, .int xW1_row, .int xW1_quiets, .int xW1_place, .int xW1_turned], oO aW2 2 [.ref aP, .int z121.2.1, .int z121.2.2.1, .int z121.2.2.2.1, .int z121.2.2.2.2]]) (wn := [oO aG 3 [.ref aT, .ref aP, .ref aW1, .ref aW2, .ref aAC, .int xG_actCount, .ref aKE, .int xG_heardMinutes, .int xG_silentMinutes, .int xG_toldCount, .long xG_seedNow], oO aP 0 [.int xP_walkers, .int xP_light, .int xP_water, .int xP_nerves, .int xP_kinds], oO aW1 2 [.ref aP, .int xW1_row, .int xW1_quiets, .int xW1_place, .int xW1_turned], oO aW2 2 [.ref aP, .int z121.2.1, .int z121.2.2.1, .int z121.2.2.2.1, .int z121.2.2.2.2]]) hC [.int j6, .int j11] (cX0_only_m (kl X) (kD X) j6 j11 z129 hz129) gX4_share_X0_only rfl kyX0_only rfl [] [0, 1, 2, 3] [] [0, 1, 2, 3] rfl rfl rfl rfl (by decide) rfl rfl rfl ⟨rfl, rfl⟩ ⟨Nat.le_of_ble_eq_true rfl, Nat.le_of_ble_eq_true rfl⟩ (Nat.le_of_ble_eq_true rfl) rfl dX4_share_129 ?_
          refine g_iload_n hC 3 dX4_share_132 rfl rfl ?_
          refine g_lload_n hC 4 dX4_share_133 rfl rfl ?_
          obtain ⟨z134, hz134, hf⟩ := gd_b hf
          refine g_callVi (wr := []) (wn := [oO aG 3 [.ref aT, .ref aP, .ref aW1, .ref aW2, .ref aAC, .int xG_actCount, .ref aKE, .int xG_heardMinutes, .int xG_silentMinutes, .int xG_toldCount, .long xG_seedNow], oO aP 0 [.int xP_walkers, .int xP_light, .int xP_water, .int xP_nerves, .int xP_kinds], oO aW1 2 [.ref aP, .int xW1_row, .int xW1_quiets, .int xW1_place, .int xW1_turned], oO aW2 2 [.ref aP, .int z134.2.1, .int z134.2.2.1, .int z134.2.2.2.1, .int z134.2.2.2.2]]) hC [.int z129, .int j2, .long j3] (cX4_leftOf_m (kl X) (kD X) aG aT aP aW1 aW2 aAC aKE xG_actCount xG_heardMinutes xG_silentMinutes xG_toldCount xG_seedNow xP_walkers xP_light xP_water xP_nerves xP_kinds xW1_row xW1_quiets xW1_place xW1_turned z121.2.1 z121.2.2.1 z121.2.2.2.1 z121.2.2.2.2 z129 j2 j3 z134 hz134) gX4_share_X4_leftOf rfl kyX4_leftOf rfl rfl rfl (q0 := 0) rfl [0, 1, 2, 3] [] [] [0, 1, 2, 3] rfl rfl rfl rfl (by decide) rfl rfl rfl ⟨rfl, rfl⟩ ⟨Nat.le_of_ble_eq_true rfl, Nat.le_of_ble_eq_true rfl⟩ (Nat.le_of_ble_eq_true rfl) rfl dX4_share_134 ?_
          refine g_isub hC dX4_share_137 ?_
          refine g_istore (lv' := [(13, .int (z121.1 - z134.1)), (12, .int z102), (0, .ref aG), (1, .int j1), (2, .int j2), (3, .long j3), (5, .int j5), (6, .int j6), (7, .int j7), (8, .int j8), (9, .long j9), (11, .int j11)]) hC dX4_share_138 (by decide) rfl ?_
          refine g_lload hC 10 dX4_share_140 rfl ?_
          refine g_iload hC 0 dX4_share_142 rfl ?_
          refine g_iload hC 1 dX4_share_144 rfl ?_
          obtain ⟨z146, hz146, hf⟩ := gd_b hf
          refine g_callSi (wr := [oO aG 3 [.ref aT, .ref aP, .ref aW1, .ref aW2, .ref aAC, .int xG_actCount, .ref aKE, .int xG_heardMinutes, .int xG_silentMinutes, .int xG_toldCount, .long xG_seedNow], oO aP 0 [.int xP_walkers, .int xP_light, .int xP_water, .int xP_nerves, .int xP_kinds], oO aW1 2 [.ref aP, .int xW1_row, .int xW1_quiets, .int xW1_place, .int xW1_turned], oO aW2 2 [.ref aP, .int z134.2.1, .int z134.2.2.1, .int z134.2.2.2.1, .int z134.2.2.2.2]]) (wn := [oO aG 3 [.ref aT, .ref aP, .ref aW1, .ref aW2, .ref aAC, .int xG_actCount, .ref aKE, .int xG_heardMinutes, .int xG_silentMinutes, .int xG_toldCount, .long xG_seedNow], oO aP 0 [.int xP_walkers, .int xP_light, .int xP_water, .int xP_nerves, .int xP_kinds], oO aW1 2 [.ref aP, .int xW1_row, .int xW1_quiets, .int xW1_place, .int xW1_turned], oO aW2 2 [.ref aP, .int z134.2.1, .int z134.2.2.1, .int z134.2.2.2.1, .int z134.2.2.2.2]]) hC [.int z102] (cX4_factorial_m (kl X) (kD X) z102 z146 hz146) gX4_share_X4_factorial rfl kyX4_factorial rfl [] [0, 1, 2, 3] [] [0, 1, 2, 3] rfl rfl rfl rfl (by decide) rfl rfl rfl ⟨rfl, rfl⟩ ⟨Nat.le_of_ble_eq_true rfl, Nat.le_of_ble_eq_true rfl⟩ (Nat.le_of_ble_eq_true rfl) rfl dX4_share_146 ?_
          refine g_imul hC dX4_share_149 ?_
          refine g_iload hC 9 dX4_share_150 rfl ?_
          refine g_iconst (v := (1 : Int32)) hC dX4_share_152 ci_1 ?_
          refine g_isub hC dX4_share_153 ?_
          refine g_iload hC 1 dX4_share_154 rfl ?_
          refine g_isub hC dX4_share_156 ?_
          obtain ⟨z157, hz157, hf⟩ := gd_b hf
          refine g_callSi (wr := [oO aG 3 [.ref aT, .ref aP, .ref aW1, .ref aW2, .ref aAC, .int xG_actCount, .ref aKE, .int xG_heardMinutes, .int xG_silentMinutes, .int xG_toldCount, .long xG_seedNow], oO aP 0 [.int xP_walkers, .int xP_light, .int xP_water, .int xP_nerves, .int xP_kinds], oO aW1 2 [.ref aP, .int xW1_row, .int xW1_quiets, .int xW1_place, .int xW1_turned], oO aW2 2 [.ref aP, .int z134.2.1, .int z134.2.2.1, .int z134.2.2.2.1, .int z134.2.2.2.2]]) (wn := [oO aG 3 [.ref aT, .ref aP, .ref aW1, .ref aW2, .ref aAC, .int xG_actCount, .ref aKE, .int xG_heardMinutes, .int xG_silentMinutes, .int xG_toldCount, .long xG_seedNow], oO aP 0 [.int xP_walkers, .int xP_light, .int xP_water, .int xP_nerves, .int xP_kinds], oO aW1 2 [.ref aP, .int xW1_row, .int xW1_quiets, .int xW1_place, .int xW1_turned], oO aW2 2 [.ref aP, .int z134.2.1, .int z134.2.2.1, .int z134.2.2.2.1, .int z134.2.2.2.2]]) hC [.int ((j8 - (1 : Int32)) - z102)] (cX4_factorial_m (kl X) (kD X) ((j8 - (1 : Int32)) - z102) z157 hz157) gX4_share_X4_factorial rfl kyX4_factorial rfl [] [0, 1, 2, 3] [] [0, 1, 2, 3] rfl rfl rfl rfl (by decide) rfl rfl rfl ⟨rfl, rfl⟩ ⟨Nat.le_of_ble_eq_true rfl, Nat.le_of_ble_eq_true rfl⟩ (Nat.le_of_ble_eq_true rfl) rfl dX4_share_157 ?_
          refine g_imul hC dX4_share_160 ?_
          refine g_i2l hC dX4_share_161 ?_
          refine g_ladd hC dX4_share_162 ?_
          refine g_lstore (lv' := [(9, .long (j9 + (((z121.1 - z134.1) * z146) * z157).toInt64)), (13, .int (z121.1 - z134.1)), (12, .int z102), (0, .ref aG), (1, .int j1), (2, .int j2), (3, .long j3), (5, .int j5), (6, .int j6), (7, .int j7), (8, .int j8), (11, .int j11)]) hC dX4_share_163 (by decide) rfl ?_
          refine g_lv (lv' := [(0, .ref aG), (1, .int j1), (2, .int j2), (3, .long j3), (5, .int j5), (6, .int j6), (7, .int j7), (8, .int j8), (9, .long (j9 + (((z121.1 - z134.1) * z146) * z157).toInt64)), (11, .int j11)]) [3, 4, 5, 6, 7, 8, 9, 10, 0, 11] rfl ?_
          exact t165 k83 hk83 j1 j2 j3 j5 j6 j7 j8 (j9 + (((z121.1 - z134.1) * z146) * z157).toInt64) j11 z134.2.1 z134.2.2.1 z134.2.2.2.1 z134.2.2.2.2 hf
  unfold fX4_share at hf
  refine g_aload_n hC 0 dX4_share_0 rfl rfl ?_
  refine g_get (C := RX4) (T := TX4) (N := 11) (v := .ref aP) hC hinX4 0 1 rfl rfl (by decide) (List.mem_of_getElem? (i := 1) rfl) rfl dX4_share_1 ?_
  refine g_iload_n hC 1 dX4_share_4 rfl rfl ?_
  obtain ⟨z5, hz5, hf⟩ := gd_b hf
  refine g_callVi (wr := [oO aG 3 [.ref aT, .ref aP, .ref aW1, .ref aW2, .ref aAC, .int xG_actCount, .ref aKE, .int xG_heardMinutes, .int xG_silentMinutes, .int xG_toldCount, .long xG_seedNow], oO aW1 2 [.ref aP, .int xW1_row, .int xW1_quiets, .int xW1_place, .int xW1_turned], oO aW2 2 [.ref aP, .int xW2_row, .int xW2_quiets, .int xW2_place, .int xW2_turned]]) (wn := [oO aG 3 [.ref aT, .ref aP, .ref aW1, .ref aW2, .ref aAC, .int xG_actCount, .ref aKE, .int xG_heardMinutes, .int xG_silentMinutes, .int xG_toldCount, .long xG_seedNow], oO aP 0 [.int xP_walkers, .int xP_light, .int xP_water, .int xP_nerves, .int xP_kinds], oO aW1 2 [.ref aP, .int xW1_row, .int xW1_quiets, .int xW1_place, .int xW1_turned], oO aW2 2 [.ref aP, .int xW2_row, .int xW2_quiets, .int xW2_place, .int xW2_turned]]) hC [.int j1] (cX1_has_m (kl X) (kD X) aP xP_walkers xP_light xP_water xP_nerves xP_kinds j1 z5 hz5) gX4_share_X1_has rfl kyX1_has rfl rfl rfl (q0 := 0) rfl [1] [0, 2, 3] [] [0, 3, 1, 2] rfl rfl rfl rfl (by decide) rfl rfl rfl ⟨rfl, rfl⟩ ⟨Nat.le_of_ble_eq_true rfl, Nat.le_of_ble_eq_true rfl⟩ (Nat.le_of_ble_eq_true rfl) rfl dX4_share_5 ?_
  refine g_if_ne (tgt := 13) hC dX4_share_8 (by decide) (fun hc => ?_) (fun hc => ?_)
  · replace hf := gd_f hc hf
    refine g_iload_n hC 2 dX4_share_13 rfl rfl ?_
    refine g_lload_n hC 3 dX4_share_14 rfl rfl ?_
    obtain ⟨z15, hz15, hf⟩ := gd_b hf
    refine g_callSi (wr := [oO aG 3 [.ref aT, .ref aP, .ref aW1, .ref aW2, .ref aAC, .int xG_actCount, .ref aKE, .int xG_heardMinutes, .int xG_silentMinutes, .int xG_toldCount, .long xG_seedNow], oO aP 0 [.int xP_walkers, .int xP_light, .int xP_water, .int xP_nerves, .int xP_kinds], oO aW1 2 [.ref aP, .int xW1_row, .int xW1_quiets, .int xW1_place, .int xW1_turned], oO aW2 2 [.ref aP, .int xW2_row, .int xW2_quiets, .int xW2_place, .int xW2_turned]]) (wn := [oO aG 3 [.ref aT, .ref aP, .ref aW1, .ref aW2, .ref aAC, .int xG_actCount, .ref aKE, .int xG_heardMinutes, .int xG_silentMinutes, .int xG_toldCount, .long xG_seedNow], oO aP 0 [.int xP_walkers, .int xP_light, .int xP_water, .int xP_nerves, .int xP_kinds], oO aW1 2 [.ref aP, .int xW1_row, .int xW1_quiets, .int xW1_place, .int xW1_turned], oO aW2 2 [.ref aP, .int xW2_row, .int xW2_quiets, .int xW2_place, .int xW2_turned]]) hC [.int j2, .long j3] (cX4_isSong_m (kl X) (kD X) j2 j3 z15 hz15) gX4_share_X4_isSong rfl kyX4_isSong rfl [] [0, 1, 2, 3] [] [0, 1, 2, 3] rfl rfl rfl rfl (by decide) rfl rfl rfl ⟨rfl, rfl⟩ ⟨Nat.le_of_ble_eq_true rfl, Nat.le_of_ble_eq_true rfl⟩ (Nat.le_of_ble_eq_true rfl) rfl dX4_share_15 ?_
    refine g_if_ne (tgt := 24) hC dX4_share_18 (by decide) (fun hc => ?_) (fun hc => ?_)
    · replace hf := gd_f hc hf
      refine g_aload_n hC 0 dX4_share_24 rfl rfl ?_
      refine g_get (C := RX4) (T := TX4) (N := 11) (v := .ref aW1) hC hinX4 0 2 rfl rfl (by decide) (List.mem_of_getElem? (i := 2) rfl) rfl dX4_share_25 ?_
      obtain ⟨z28, hz28, hf⟩ := gd_b hf
      refine g_callVi (wr := [oO aG 3 [.ref aT, .ref aP, .ref aW1, .ref aW2, .ref aAC, .int xG_actCount, .ref aKE, .int xG_heardMinutes, .int xG_silentMinutes, .int xG_toldCount, .long xG_seedNow], oO aP 0 [.int xP_walkers, .int xP_light, .int xP_water, .int xP_nerves, .int xP_kinds], oO aW2 2 [.ref aP, .int xW2_row, .int xW2_quiets, .int xW2_place, .int xW2_turned]]) (wn := [oO aG 3 [.ref aT, .ref aP, .ref aW1, .ref aW2, .ref aAC, .int xG_actCount, .ref aKE, .int xG_heardMinutes, .int xG_silentMinutes, .int xG_toldCount, .long xG_seedNow], oO aP 0 [.int xP_walkers, .int xP_light, .int xP_water, .int xP_nerves, .int xP_kinds], oO aW1 2 [.ref aP, .int xW1_row, .int xW1_quiets, .int xW1_place, .int xW1_turned], oO aW2 2 [.ref aP, .int xW2_row, .int xW2_quiets, .int xW2_place, .int xW2_turned]]) hC [] (cX3_row_m (kl X) (kD X) aP aW1 xW1_row xW1_quiets xW1_place xW1_turned z28 hz28) gX4_share_X3_row rfl kyX3_row rfl rfl rfl (q0 := 0) rfl [2] [0, 1, 3] [] [0, 1, 3, 2] rfl rfl rfl rfl (by decide) rfl rfl rfl ⟨rfl, rfl⟩ ⟨Nat.le_of_ble_eq_true rfl, Nat.le_of_ble_eq_true rfl⟩ (Nat.le_of_ble_eq_true rfl) rfl dX4_share_28 ?_
      refine g_istore (lv' := [(6, .int z28), (0, .ref aG), (1, .int j1), (2, .int j2), (3, .long j3), (5, .int j5)]) hC dX4_share_31 (by decide) rfl ?_
      refine g_aload_n hC 1 dX4_share_33 rfl rfl ?_
      refine g_get (C := RX4) (T := TX4) (N := 11) (v := .ref aW1) hC hinX4 0 2 rfl rfl (by decide) (List.mem_of_getElem? (i := 2) rfl) rfl dX4_share_34 ?_
      obtain ⟨z37, hz37, hf⟩ := gd_b hf
      refine g_callVi (wr := [oO aG 3 [.ref aT, .ref aP, .ref aW1, .ref aW2, .ref aAC, .int xG_actCount, .ref aKE, .int xG_heardMinutes, .int xG_silentMinutes, .int xG_toldCount, .long xG_seedNow], oO aP 0 [.int xP_walkers, .int xP_light, .int xP_water, .int xP_nerves, .int xP_kinds], oO aW2 2 [.ref aP, .int xW2_row, .int xW2_quiets, .int xW2_place, .int xW2_turned]]) (wn := [oO aG 3 [.ref aT, .ref aP, .ref aW1, .ref aW2, .ref aAC, .int xG_actCount, .ref aKE, .int xG_heardMinutes, .int xG_silentMinutes, .int xG_toldCount, .long xG_seedNow], oO aP 0 [.int xP_walkers, .int xP_light, .int xP_water, .int xP_nerves, .int xP_kinds], oO aW1 2 [.ref aP, .int xW1_row, .int xW1_quiets, .int xW1_place, .int xW1_turned], oO aW2 2 [.ref aP, .int xW2_row, .int xW2_quiets, .int xW2_place, .int xW2_turned]]) hC [] (cX3_members_m (kl X) (kD X) aP aW1 xW1_row xW1_quiets xW1_place xW1_turned z37 hz37) gX4_share_X3_members rfl kyX3_members rfl rfl rfl (q0 := 0) rfl [2] [0, 1, 3] [] [0, 1, 3, 2] rfl rfl rfl rfl (by decide) rfl rfl rfl ⟨rfl, rfl⟩ ⟨Nat.le_of_ble_eq_true rfl, Nat.le_of_ble_eq_true rfl⟩ (Nat.le_of_ble_eq_true rfl) rfl dX4_share_37 ?_
      refine g_iconst (v := (1 : Int32)) hC dX4_share_40 ci_1 ?_
      refine g_iload_n hC 2 dX4_share_41 rfl rfl ?_
      refine g_ishl hC dX4_share_42 ?_
      refine g_iconst (v := (-1 : Int32)) hC dX4_share_43 ci_m1 ?_
      refine g_ixor hC dX4_share_44 ?_
      refine g_iand hC dX4_share_45 ?_
      refine g_istore (lv' := [(7, .int (z37 &&& (((1 : Int32) <<< (j1 &&& 31)) ^^^ (-1 : Int32)))), (6, .int z28), (0, .ref aG), (1, .int j1), (2, .int j2), (3, .long j3), (5, .int j5)]) hC dX4_share_46 (by decide) rfl ?_
      refine g_iload hC 0 dX4_share_48 rfl ?_
      refine g_aload_n hC 2 dX4_share_50 rfl rfl ?_
      refine g_get (C := RX4) (T := TX4) (N := 11) (v := .ref aW1) hC hinX4 0 2 rfl rfl (by decide) (List.mem_of_getElem? (i := 2) rfl) rfl dX4_share_51 ?_
      obtain ⟨z54, hz54, hf⟩ := gd_b hf
      refine g_callVi (wr := [oO aG 3 [.ref aT, .ref aP, .ref aW1, .ref aW2, .ref aAC, .int xG_actCount, .ref aKE, .int xG_heardMinutes, .int xG_silentMinutes, .int xG_toldCount, .long xG_seedNow], oO aP 0 [.int xP_walkers, .int xP_light, .int xP_water, .int xP_nerves, .int xP_kinds], oO aW2 2 [.ref aP, .int xW2_row, .int xW2_quiets, .int xW2_place, .int xW2_turned]]) (wn := [oO aG 3 [.ref aT, .ref aP, .ref aW1, .ref aW2, .ref aAC, .int xG_actCount, .ref aKE, .int xG_heardMinutes, .int xG_silentMinutes, .int xG_toldCount, .long xG_seedNow], oO aP 0 [.int xP_walkers, .int xP_light, .int xP_water, .int xP_nerves, .int xP_kinds], oO aW1 2 [.ref aP, .int xW1_row, .int xW1_quiets, .int xW1_place, .int xW1_turned], oO aW2 2 [.ref aP, .int xW2_row, .int xW2_quiets, .int xW2_place, .int xW2_turned]]) hC [] (cX3_members_m (kl X) (kD X) aP aW1 xW1_row xW1_quiets xW1_place xW1_turned z54 hz54) gX4_share_X3_members rfl kyX3_members rfl rfl rfl (q0 := 0) rfl [2] [0, 1, 3] [] [0, 1, 3, 2] rfl rfl rfl rfl (by decide) rfl rfl rfl ⟨rfl, rfl⟩ ⟨Nat.le_of_ble_eq_true rfl, Nat.le_of_ble_eq_true rfl⟩ (Nat.le_of_ble_eq_true rfl) rfl dX4_share_54 ?_
      refine g_icmp_ne (tgt := 68) hC dX4_share_57 (by decide) (fun hc => ?_) (fun hc => ?_)
      · replace hf := gd_f hc hf
        refine g_aload_n hC 2 dX4_share_68 rfl rfl ?_
        refine g_get (C := RX4) (T := TX4) (N := 11) (v := .ref aW1) hC hinX4 0 2 rfl rfl (by decide) (List.mem_of_getElem? (i := 2) rfl) rfl dX4_share_69 ?_
        obtain ⟨z72, hz72, hf⟩ := gd_b hf
        refine g_callVi (wr := [oO aG 3 [.ref aT, .ref aP, .ref aW1, .ref aW2, .ref aAC, .int xG_actCount, .ref aKE, .int xG_heardMinutes, .int xG_silentMinutes, .int xG_toldCount, .long xG_seedNow], oO aP 0 [.int xP_walkers, .int xP_light, .int xP_water, .int xP_nerves, .int xP_kinds], oO aW2 2 [.ref aP, .int xW2_row, .int xW2_quiets, .int xW2_place, .int xW2_turned]]) (wn := [oO aG 3 [.ref aT, .ref aP, .ref aW1, .ref aW2, .ref aAC, .int xG_actCount, .ref aKE, .int xG_heardMinutes, .int xG_silentMinutes, .int xG_toldCount, .long xG_seedNow], oO aP 0 [.int xP_walkers, .int xP_light, .int xP_water, .int xP_nerves, .int xP_kinds], oO aW1 2 [.ref aP, .int xW1_row, .int xW1_quiets, .int xW1_place, .int xW1_turned], oO aW2 2 [.ref aP, .int xW2_row, .int xW2_quiets, .int xW2_place, .int xW2_turned]]) hC [] (cX3_size_m (kl X) (kD X) aP aW1 xW1_row xW1_quiets xW1_place xW1_turned z72 hz72) gX4_share_X3_size rfl kyX3_size rfl rfl rfl (q0 := 0) rfl [2] [0, 1, 3] [] [0, 1, 3, 2] rfl rfl rfl rfl (by decide) rfl rfl rfl ⟨rfl, rfl⟩ ⟨Nat.le_of_ble_eq_true rfl, Nat.le_of_ble_eq_true rfl⟩ (Nat.le_of_ble_eq_true rfl) rfl dX4_share_72 ?_
        refine g_istore (lv' := [(8, .int z72), (7, .int (z37 &&& (((1 : Int32) <<< (j1 &&& 31)) ^^^ (-1 : Int32)))), (6, .int z28), (0, .ref aG), (1, .int j1), (2, .int j2), (3, .long j3), (5, .int j5)]) hC dX4_share_75 (by decide) rfl ?_
        refine g_lconst (v := (0 : Int64)) hC dX4_share_77 rfl ?_
        refine g_lstore (lv' := [(9, .long (0 : Int64)), (8, .int z72), (7, .int (z37 &&& (((1 : Int32) <<< (j1 &&& 31)) ^^^ (-1 : Int32)))), (6, .int z28), (0, .ref aG), (1, .int j1), (2, .int j2), (3, .long j3), (5, .int j5)]) hC dX4_share_78 (by decide) rfl ?_
        refine g_iconst (v := (0 : Int32)) hC dX4_share_80 ci_0 ?_
        refine g_istore (lv' := [(11, .int (0 : Int32)), (9, .long (0 : Int64)), (8, .int z72), (7, .int (z37 &&& (((1 : Int32) <<< (j1 &&& 31)) ^^^ (-1 : Int32)))), (6, .int z28), (0, .ref aG), (1, .int j1), (2, .int j2), (3, .long j3), (5, .int j5)]) hC dX4_share_81 (by decide) rfl ?_
        refine g_lv (lv' := [(0, .ref aG), (1, .int j1), (2, .int j2), (3, .long j3), (5, .int j5), (6, .int z28), (7, .int (z37 &&& (((1 : Int32) <<< (j1 &&& 31)) ^^^ (-1 : Int32)))), (8, .int z72), (9, .long (0 : Int64)), (11, .int (0 : Int32))]) [5, 6, 7, 8, 9, 4, 3, 2, 1, 0] rfl ?_
        exact t83  fu j1 j2 j3 j5 z28 (z37 &&& (((1 : Int32) <<< (j1 &&& 31)) ^^^ (-1 : Int32))) z72 (0 : Int64) (0 : Int32) xW2_row xW2_quiets xW2_place xW2_turned hf
      · replace hf := gd_t hc hf
        refine g_lconst (v := (0 : Int64)) hC dX4_share_60 rfl ?_
        refine g_lconst (v := (1 : Int64)) hC dX4_share_61 rfl ?_
        refine g_iload hC 6 dX4_share_62 rfl ?_
        obtain ⟨z64, hz64, hf⟩ := gd_b hf
        refine g_callSi (wr := [oO aG 3 [.ref aT, .ref aP, .ref aW1, .ref aW2, .ref aAC, .int xG_actCount, .ref aKE, .int xG_heardMinutes, .int xG_silentMinutes, .int xG_toldCount, .long xG_seedNow], oO aP 0 [.int xP_walkers, .int xP_light, .int xP_water, .int xP_nerves, .int xP_kinds], oO aW1 2 [.ref aP, .int xW1_row, .int xW1_quiets, .int xW1_place, .int xW1_turned], oO aW2 2 [.ref aP, .int xW2_row, .int xW2_quiets, .int xW2_place, .int xW2_turned]]) (wn := [oO aG 3 [.ref aT, .ref aP, .ref aW1, .ref aW2, .ref aAC, .int xG_actCount, .ref aKE, .int xG_heardMinutes, .int xG_silentMinutes, .int xG_toldCount, .long xG_seedNow], oO aP 0 [.int xP_walkers, .int xP_light, .int xP_water, .int xP_nerves, .int xP_kinds], oO aW1 2 [.ref aP, .int xW1_row, .int xW1_quiets, .int xW1_place, .int xW1_turned], oO aW2 2 [.ref aP, .int xW2_row, .int xW2_quiets, .int xW2_place, .int xW2_turned]]) hC [.long (0 : Int64), .long (1 : Int64), .int j5] (cX4_fraction_m (kl X) (kD X) (0 : Int64) (1 : Int64) j5 z64 hz64) gX4_share_X4_fraction rfl kyX4_fraction rfl [] [0, 1, 2, 3] [] [0, 1, 2, 3] rfl rfl rfl rfl (by decide) rfl rfl rfl ⟨rfl, rfl⟩ ⟨Nat.le_of_ble_eq_true rfl, Nat.le_of_ble_eq_true rfl⟩ (Nat.le_of_ble_eq_true rfl) rfl dX4_share_64 ?_
        exact hQ (z64, xW2_row, xW2_quiets, xW2_place, xW2_turned) _ _ (gd_s hf) dX4_share_67
    · replace hf := gd_t hc hf
      refine g_bipush (v := (-2 : Int32)) hC dX4_share_21 cb_m2 ?_
      exact hQ ((-2 : Int32), xW2_row, xW2_quiets, xW2_place, xW2_turned) _ _ (gd_s hf) dX4_share_23
  · replace hf := gd_t hc hf
    refine g_iconst (v := (-1 : Int32)) hC dX4_share_11 ci_m1 ?_
    exact hQ ((-1 : Int32), xW2_row, xW2_quiets, xW2_place, xW2_turned) _ _ (gd_s hf) dX4_share_12
theorem kyX4_bears : yX4_bears.cls = RX4 ∧ yX4_bears.cls ≠ "java/lang/invoke/MethodHandle" ∧ yX4_bears.cls ≠ "java/lang/invoke/VarHandle" ∧ (parseMethodDescriptor yX4_bears.desc).map (fun d => d.parameters.length) = some 1 := by decide +kernel
set_option maxHeartbeats 4000000 in
set_option maxRecDepth 100000 in
theorem cX4_bears_m (l : Launch) (D : va_G) (aG aT aP aW1 aW2 aAC aKE : Nat) (xG_actCount : Int32) (xG_heardMinutes : Int32) (xG_silentMinutes : Int32) (xG_toldCount : Int32) (xG_seedNow : Int64) (xP_walkers : Int32) (xP_light : Int32) (xP_water : Int32) (xP_nerves : Int32) (xP_kinds : Int32) (xW1_row : Int32) (xW1_quiets : Int32) (xW1_place : Int32) (xW1_turned : Int32) (xW2_row : Int32) (xW2_quiets : Int32) (xW2_place : Int32) (xW2_turned : Int32) (j1 : Int32) (z : Int32 × Int32 × Int32 × Int32 × Int32) (hf : fX4_bears j1 xP_walkers xP_light xP_water xP_nerves xP_kinds xW1_row xW1_quiets xW1_place xW2_row xW2_quiets xW2_place xW2_turned = some z) : ∀ sz : Nat, Met l yX4_bears wsX4_bears ({ frames := 4, cells := 0, slots := 0, locals := 92 } : Room) (kPre D [] [oO aG 3 [.ref aT, .ref aP, .ref aW1, .ref aW2, .ref aAC, .int xG_actCount, .ref aKE, .int xG_heardMinutes, .int xG_silentMinutes, .int xG_toldCount, .long xG_seedNow], oO aP 0 [.int xP_walkers, .int xP_light, .int xP_water, .int xP_nerves, .int xP_kinds], oO aW1 2 [.ref aP, .int xW1_row, .int xW1_quiets, .int xW1_place, .int xW1_turned], oO aW2 2 [.ref aP, .int xW2_row, .int xW2_quiets, .int xW2_place, .int xW2_turned]] sz [.ref aG, .int j1]) (kQi D [] [oO aG 3 [.ref aT, .ref aP, .ref aW1, .ref aW2, .ref aAC, .int xG_actCount, .ref aKE, .int xG_heardMinutes, .int xG_silentMinutes, .int xG_toldCount, .long xG_seedNow], oO aP 0 [.int xP_walkers, .int xP_light, .int xP_water, .int xP_nerves, .int xP_kinds], oO aW1 2 [.ref aP, .int xW1_row, .int xW1_quiets, .int xW1_place, .int xW1_turned], oO aW2 2 [.ref aP, .int xW2_row, .int xW2_quiets, .int xW2_place, .int xW2_turned]] sz [oO aG 3 [.ref aT, .ref aP, .ref aW1, .ref aW2, .ref aAC, .int xG_actCount, .ref aKE, .int xG_heardMinutes, .int xG_silentMinutes, .int xG_toldCount, .long xG_seedNow], oO aP 0 [.int xP_walkers, .int xP_light, .int xP_water, .int xP_nerves, .int xP_kinds], oO aW1 2 [.ref aP, .int xW1_row, .int xW1_quiets, .int xW1_place, .int xW1_turned], oO aW2 2 [.ref aP, .int z.2.1, .int z.2.2.1, .int z.2.2.2.1, .int z.2.2.2.2]] z.1) 0 0 (va_A [oO aG 3 [.ref aT, .ref aP, .ref aW1, .ref aW2, .ref aAC, .int xG_actCount, .ref aKE, .int xG_heardMinutes, .int xG_silentMinutes, .int xG_toldCount, .long xG_seedNow], oO aP 0 [.int xP_walkers, .int xP_light, .int xP_water, .int xP_nerves, .int xP_kinds], oO aW1 2 [.ref aP, .int xW1_row, .int xW1_quiets, .int xW1_place, .int xW1_turned], oO aW2 2 [.ref aP, .int xW2_row, .int xW2_quiets, .int xW2_place, .int xW2_turned]] sz) := by
  refine kMet_i (own := RX4) z (fun u => u.1) (fun u => [oO aG 3 [.ref aT, .ref aP, .ref aW1, .ref aW2, .ref aAC, .int xG_actCount, .ref aKE, .int xG_heardMinutes, .int xG_silentMinutes, .int xG_toldCount, .long xG_seedNow], oO aP 0 [.int xP_walkers, .int xP_light, .int xP_water, .int xP_nerves, .int xP_kinds], oO aW1 2 [.ref aP, .int xW1_row, .int xW1_quiets, .int xW1_place, .int xW1_turned], oO aW2 2 [.ref aP, .int u.2.1, .int u.2.2.1, .int u.2.2.2.1, .int u.2.2.2.2]]) rfl (by decide) rfl ⟨rfl, rfl⟩ (Nat.le_of_ble_eq_true rfl) ?_
  intro X hXl hXD hC hQ
  subst hXl
  subst hXD
  change kG X 0 [(0, .ref aG), (1, .int j1)] [] [oO aG 3 [.ref aT, .ref aP, .ref aW1, .ref aW2, .ref aAC, .int xG_actCount, .ref aKE, .int xG_heardMinutes, .int xG_silentMinutes, .int xG_toldCount, .long xG_seedNow], oO aP 0 [.int xP_walkers, .int xP_light, .int xP_water, .int xP_nerves, .int xP_kinds], oO aW1 2 [.ref aP, .int xW1_row, .int xW1_quiets, .int xW1_place, .int xW1_turned], oO aW2 2 [.ref aP, .int xW2_row, .int xW2_quiets, .int xW2_place, .int xW2_turned]]
  have hinX4 : ∀ w ∈ wsX40, w ∈ wsX4_bears := fun _ h => List.mem_cons_of_mem _ (List.mem_append_left _ (List.mem_append_left _ (List.mem_append_right _ h)))
  have t61 : ∀  (n : Nat) (j1 : Int32) (j2 : Int32) (j3 : Int32) (xW2_row : Int32) (xW2_quiets : Int32) (xW2_place : Int32) (xW2_turned : Int32), lp (fun _ _ _ _ _ _ _ => none) (fX4_bears_b61_S xP_walkers xP_light xP_water xP_nerves xP_kinds xW1_row xW1_quiets xW1_place ) n j1 j2 j3 xW2_row xW2_quiets xW2_place xW2_turned = some z → kG X 61 [(0, .ref aG), (1, .int j1), (2, .int j2), (3, .int j3)] [] [oO aG 3 [.ref aT, .ref aP, .ref aW1, .ref aW2, .ref aAC, .int xG_actCount, .ref aKE, .int xG_heardMinutes, .int xG_silentMinutes, .int xG_toldCount, .long xG_seedNow], oO aP 0 [.int xP_walkers, .int xP_light, .int xP_water, .int xP_nerves, .int xP_kinds], oO aW1 2 [.ref aP, .int xW1_row, .int xW1_quiets, .int xW1_place, .int xW1_turned], oO aW2 2 [.ref aP, .int xW2_row, .int xW2_quiets, .int xW2_place, .int xW2_turned]] := by
    intro  n
    induction n with
    | zero => intro j1 j2 j3 xW2_row xW2_quiets xW2_place xW2_turned hf; cases hf
    | succ n hk61 =>
      intro j1 j2 j3 xW2_row xW2_quiets xW2_place xW2_turned hf
      rw [lp_s] at hf
      revert hf hk61
      generalize lp (fun _ _ _ _ _ _ _ => none) (fX4_bears_b61_S xP_walkers xP_light xP_water xP_nerves xP_kinds xW1_row xW1_quiets xW1_place ) n = k61
      intro hk61 hf
      unfold fX4_bears_b61_S at hf
      refine g_iload_n hC 3 dX4_bears_61 rfl rfl ?_
      refine g_iload_n hC 2 dX4_bears_62 rfl rfl ?_
      refine g_icmp_gt (tgt := 98) hC dX4_bears_63 (by decide) (fun hc => ?_) (fun hc => ?_)
      · replace hf := gd_t hc hf
        refine g_bipush (v := (-9 : Int32)) hC dX4_bears_98 cb_m9 ?_
        exact hQ ((-9 : Int32), xW2_row, xW2_quiets, xW2_place, xW2_turned) _ _ (gd_s hf) dX4_bears_100
      · replace hf := gd_f hc hf
        refine g_aload_n hC 0 dX4_bears_66 rfl rfl ?_
        refine g_get (C := RX4) (T := TX4) (N := 11) (v := .ref aW2) hC hinX4 0 3 rfl rfl (by decide) (List.mem_of_getElem? (i := 3) rfl) rfl dX4_bears_67 ?_
        refine g_iconst (v := (0 : Int32)) hC dX4_bears_70 ci_0 ?_
        obtain ⟨z71, hz71, hf⟩ := gd_b hf
        refine g_callVi (wr := [oO aG 3 [.ref aT, .ref aP, .ref aW1, .ref aW2, .ref aAC, .int xG_actCount, .ref aKE, .int xG_heardMinutes, .int xG_silentMinutes, .int xG_toldCount, .long xG_seedNow], oO aW1 2 [.ref aP, .int xW1_row, .int xW1_quiets, .int xW1_place, .int xW1_turned]]) (wn := [oO aG 3 [.ref aT, .ref aP, .ref aW1, .ref aW2, .ref aAC, .int xG_actCount, .ref aKE, .int xG_heardMinutes, .int xG_silentMinutes, .int xG_toldCount, .long xG_seedNow], oO aP 0 [.int xP_walkers, .int xP_light, .int xP_water, .int xP_nerves, .int xP_kinds], oO aW1 2 [.ref aP, .int xW1_row, .int xW1_quiets, .int xW1_place, .int xW1_turned], oO aW2 2 [.ref aP, .int z71.2.1, .int z71.2.2.1, .int z71.2.2.2.1, .int z71.2.2.2.2]]) hC [.int (0 : Int32)] (cX3_step_m (kl X) (kD X) aP aW2 xP_walkers xP_light xP_water xP_nerves xP_kinds xW2_row xW2_quiets xW2_place xW2_turned (0 : Int32) z71 hz71) gX4_bears_X3_step rfl kyX3_step rfl rfl rfl (q0 := 1) rfl [1, 3] [0, 2] [] [0, 2, 1, 3] rfl rfl rfl rfl (by decide) rfl rfl rfl ⟨rfl, rfl⟩ ⟨Nat.le_of_ble_eq_true rfl, Nat.le_of_ble_eq_true rfl⟩ (Nat.le_of_ble_eq_true rfl) rfl dX4_bears_71 ?_
        refine g_pop hC dX4_bears_74 rfl ?_
        refine g_aload_n hC 0 dX4_bears_75 rfl rfl ?_
        refine g_get (C := RX4) (T := TX4) (N := 11) (v := .ref aW2) hC hinX4 0 3 rfl rfl (by decide) (List.mem_of_getElem? (i := 3) rfl) rfl dX4_bears_76 ?_
        obtain ⟨z79, hz79, hf⟩ := gd_b hf
        refine g_callVi (wr := [oO aG 3 [.ref aT, .ref aP, .ref aW1, .ref aW2, .ref aAC, .int xG_actCount, .ref aKE, .int xG_heardMinutes, .int xG_silentMinutes, .int xG_toldCount, .long xG_seedNow], oO aP 0 [.int xP_walkers, .int xP_light, .int xP_water, .int xP_nerves, .int xP_kinds], oO aW1 2 [.ref aP, .int xW1_row, .int xW1_quiets, .int xW1_place, .int xW1_turned]]) (wn := [oO aG 3 [.ref aT, .ref aP, .ref aW1, .ref aW2, .ref aAC, .int xG_actCount, .ref aKE, .int xG_heardMinutes, .int xG_silentMinutes, .int xG_toldCount, .long xG_seedNow], oO aP 0 [.int xP_walkers, .int xP_light, .int xP_water, .int xP_nerves, .int xP_kinds], oO aW1 2 [.ref aP, .int xW1_row, .int xW1_quiets, .int xW1_place, .int xW1_turned], oO aW2 2 [.ref aP, .int z71.2.1, .int z71.2.2.1, .int z71.2.2.2.1, .int z71.2.2.2.2]]) hC [] (cX3_turned_m (kl X) (kD X) aP aW2 z71.2.1 z71.2.2.1 z71.2.2.2.1 z71.2.2.2.2 z79 hz79) gX4_bears_X3_turned rfl kyX3_turned rfl rfl rfl (q0 := 0) rfl [3] [0, 1, 2] [] [0, 1, 2, 3] rfl rfl rfl rfl (by decide) rfl rfl rfl ⟨rfl, rfl⟩ ⟨Nat.le_of_ble_eq_true rfl, Nat.le_of_ble_eq_true rfl⟩ (Nat.le_of_ble_eq_true rfl) rfl dX4_bears_79 ?_
        refine g_iload_n hC 1 dX4_bears_82 rfl rfl ?_
        refine g_ishr hC dX4_bears_83 ?_
        refine g_iconst (v := (1 : Int32)) hC dX4_bears_84 ci_1 ?_
        refine g_iand hC dX4_bears_85 ?_
        refine g_iconst (v := (1 : Int32)) hC dX4_bears_86 ci_1 ?_
        refine g_icmp_ne (tgt := 92) hC dX4_bears_87 (by decide) (fun hc => ?_) (fun hc => ?_)
        · replace hf := gd_f hc hf
          refine g_iinc (v := (j3 + (1 : Int32))) (lv' := [(3, .int (j3 + (1 : Int32))), (0, .ref aG), (1, .int j1), (2, .int j2)]) hC 3 dX4_bears_92 rfl (ii _ ci_1) (by decide) rfl ?_
          refine g_goto (tgt := 61) hC dX4_bears_95 (by decide) ?_
          refine g_lv (lv' := [(0, .ref aG), (1, .int j1), (2, .int j2), (3, .int (j3 + (1 : Int32)))]) [1, 2, 3, 0] rfl ?_
          exact hk61 j1 j2 (j3 + (1 : Int32)) z71.2.1 z71.2.2.1 z71.2.2.2.1 z71.2.2.2.2 hf
        · replace hf := gd_t hc hf
          refine g_iload_n hC 3 dX4_bears_90 rfl rfl ?_
          exact hQ (j3, z71.2.1, z71.2.2.1, z71.2.2.2.1, z71.2.2.2.2) _ _ (gd_s hf) dX4_bears_91
  unfold fX4_bears at hf
  refine g_aload_n hC 0 dX4_bears_0 rfl rfl ?_
  refine g_get (C := RX4) (T := TX4) (N := 11) (v := .ref aP) hC hinX4 0 1 rfl rfl (by decide) (List.mem_of_getElem? (i := 1) rfl) rfl dX4_bears_1 ?_
  refine g_iload_n hC 1 dX4_bears_4 rfl rfl ?_
  obtain ⟨z5, hz5, hf⟩ := gd_b hf
  refine g_callVi (wr := [oO aG 3 [.ref aT, .ref aP, .ref aW1, .ref aW2, .ref aAC, .int xG_actCount, .ref aKE, .int xG_heardMinutes, .int xG_silentMinutes, .int xG_toldCount, .long xG_seedNow], oO aW1 2 [.ref aP, .int xW1_row, .int xW1_quiets, .int xW1_place, .int xW1_turned], oO aW2 2 [.ref aP, .int xW2_row, .int xW2_quiets, .int xW2_place, .int xW2_turned]]) (wn := [oO aG 3 [.ref aT, .ref aP, .ref aW1, .ref aW2, .ref aAC, .int xG_actCount, .ref aKE, .int xG_heardMinutes, .int xG_silentMinutes, .int xG_toldCount, .long xG_seedNow], oO aP 0 [.int xP_walkers, .int xP_light, .int xP_water, .int xP_nerves, .int xP_kinds], oO aW1 2 [.ref aP, .int xW1_row, .int xW1_quiets, .int xW1_place, .int xW1_turned], oO aW2 2 [.ref aP, .int xW2_row, .int xW2_quiets, .int xW2_place, .int xW2_turned]]) hC [.int j1] (cX1_has_m (kl X) (kD X) aP xP_walkers xP_light xP_water xP_nerves xP_kinds j1 z5 hz5) gX4_bears_X1_has rfl kyX1_has rfl rfl rfl (q0 := 0) rfl [1] [0, 2, 3] [] [0, 3, 1, 2] rfl rfl rfl rfl (by decide) rfl rfl rfl ⟨rfl, rfl⟩ ⟨Nat.le_of_ble_eq_true rfl, Nat.le_of_ble_eq_true rfl⟩ (Nat.le_of_ble_eq_true rfl) rfl dX4_bears_5 ?_
  refine g_if_ne (tgt := 13) hC dX4_bears_8 (by decide) (fun hc => ?_) (fun hc => ?_)
  · replace hf := gd_f hc hf
    refine g_aload_n hC 0 dX4_bears_13 rfl rfl ?_
    refine g_get (C := RX4) (T := TX4) (N := 11) (v := .ref aW1) hC hinX4 0 2 rfl rfl (by decide) (List.mem_of_getElem? (i := 2) rfl) rfl dX4_bears_14 ?_
    refine g_iload_n hC 1 dX4_bears_17 rfl rfl ?_
    obtain ⟨z18, hz18, hf⟩ := gd_b hf
    refine g_callVi (wr := [oO aG 3 [.ref aT, .ref aP, .ref aW1, .ref aW2, .ref aAC, .int xG_actCount, .ref aKE, .int xG_heardMinutes, .int xG_silentMinutes, .int xG_toldCount, .long xG_seedNow], oO aP 0 [.int xP_walkers, .int xP_light, .int xP_water, .int xP_nerves, .int xP_kinds], oO aW2 2 [.ref aP, .int xW2_row, .int xW2_quiets, .int xW2_place, .int xW2_turned]]) (wn := [oO aG 3 [.ref aT, .ref aP, .ref aW1, .ref aW2, .ref aAC, .int xG_actCount, .ref aKE, .int xG_heardMinutes, .int xG_silentMinutes, .int xG_toldCount, .long xG_seedNow], oO aP 0 [.int xP_walkers, .int xP_light, .int xP_water, .int xP_nerves, .int xP_kinds], oO aW1 2 [.ref aP, .int xW1_row, .int xW1_quiets, .int xW1_place, .int xW1_turned], oO aW2 2 [.ref aP, .int xW2_row, .int xW2_quiets, .int xW2_place, .int xW2_turned]]) hC [.int j1] (cX3_indexOf_m (kl X) (kD X) aP aW1 xW1_row xW1_quiets xW1_place xW1_turned j1 z18 hz18) gX4_bears_X3_indexOf rfl kyX3_indexOf rfl rfl rfl (q0 := 0) rfl [2] [0, 1, 3] [] [0, 1, 3, 2] rfl rfl rfl rfl (by decide) rfl rfl rfl ⟨rfl, rfl⟩ ⟨Nat.le_of_ble_eq_true rfl, Nat.le_of_ble_eq_true rfl⟩ (Nat.le_of_ble_eq_true rfl) rfl dX4_bears_18 ?_
    refine g_bipush (v := (-9 : Int32)) hC dX4_bears_21 cb_m9 ?_
    refine g_icmp_ne (tgt := 29) hC dX4_bears_23 (by decide) (fun hc => ?_) (fun hc => ?_)
    · replace hf := gd_f hc hf
      refine g_aload_n hC 0 dX4_bears_29 rfl rfl ?_
      refine g_get (C := RX4) (T := TX4) (N := 11) (v := .ref aW2) hC hinX4 0 3 rfl rfl (by decide) (List.mem_of_getElem? (i := 3) rfl) rfl dX4_bears_30 ?_
      refine g_aload_n hC 0 dX4_bears_33 rfl rfl ?_
      refine g_get (C := RX4) (T := TX4) (N := 11) (v := .ref aW1) hC hinX4 0 2 rfl rfl (by decide) (List.mem_of_getElem? (i := 2) rfl) rfl dX4_bears_34 ?_
      obtain ⟨z37, hz37, hf⟩ := gd_b hf
      refine g_callVl (wr := [oO aG 3 [.ref aT, .ref aP, .ref aW1, .ref aW2, .ref aAC, .int xG_actCount, .ref aKE, .int xG_heardMinutes, .int xG_silentMinutes, .int xG_toldCount, .long xG_seedNow], oO aP 0 [.int xP_walkers, .int xP_light, .int xP_water, .int xP_nerves, .int xP_kinds], oO aW2 2 [.ref aP, .int xW2_row, .int xW2_quiets, .int xW2_place, .int xW2_turned]]) (wn := [oO aG 3 [.ref aT, .ref aP, .ref aW1, .ref aW2, .ref aAC, .int xG_actCount, .ref aKE, .int xG_heardMinutes, .int xG_silentMinutes, .int xG_toldCount, .long xG_seedNow], oO aP 0 [.int xP_walkers, .int xP_light, .int xP_water, .int xP_nerves, .int xP_kinds], oO aW1 2 [.ref aP, .int xW1_row, .int xW1_quiets, .int xW1_place, .int xW1_turned], oO aW2 2 [.ref aP, .int xW2_row, .int xW2_quiets, .int xW2_place, .int xW2_turned]]) hC [] (cX3_state_m (kl X) (kD X) aP aW1 xW1_row xW1_quiets xW1_place xW1_turned z37 hz37) gX4_bears_X3_state rfl kyX3_state rfl rfl rfl (q0 := 0) rfl [2] [0, 1, 3] [] [0, 1, 3, 2] rfl rfl rfl rfl (by decide) rfl rfl rfl ⟨rfl, rfl⟩ ⟨Nat.le_of_ble_eq_true rfl, Nat.le_of_ble_eq_true rfl⟩ (Nat.le_of_ble_eq_true rfl) rfl dX4_bears_37 ?_
      obtain ⟨z40, hz40, hf⟩ := gd_b hf
      refine g_callVv (wr := [oO aG 3 [.ref aT, .ref aP, .ref aW1, .ref aW2, .ref aAC, .int xG_actCount, .ref aKE, .int xG_heardMinutes, .int xG_silentMinutes, .int xG_toldCount, .long xG_seedNow], oO aP 0 [.int xP_walkers, .int xP_light, .int xP_water, .int xP_nerves, .int xP_kinds], oO aW1 2 [.ref aP, .int xW1_row, .int xW1_quiets, .int xW1_place, .int xW1_turned]]) (wn := [oO aG 3 [.ref aT, .ref aP, .ref aW1, .ref aW2, .ref aAC, .int xG_actCount, .ref aKE, .int xG_heardMinutes, .int xG_silentMinutes, .int xG_toldCount, .long xG_seedNow], oO aP 0 [.int xP_walkers, .int xP_light, .int xP_water, .int xP_nerves, .int xP_kinds], oO aW1 2 [.ref aP, .int xW1_row, .int xW1_quiets, .int xW1_place, .int xW1_turned], oO aW2 2 [.ref aP, .int z40.1, .int z40.2.1, .int z40.2.2, .int xW2_turned]]) hC [.long z37] (cX3_become_m (kl X) (kD X) aP aW2 xW2_row xW2_quiets xW2_place xW2_turned z37 z40 hz40) gX4_bears_X3_become rfl kyX3_become rfl rfl rfl (q0 := 0) rfl [3] [0, 1, 2] [] [0, 1, 2, 3] rfl rfl rfl rfl (by decide) rfl rfl rfl ⟨rfl, rfl⟩ ⟨Nat.le_of_ble_eq_true rfl, Nat.le_of_ble_eq_true rfl⟩ (Nat.le_of_ble_eq_true rfl) rfl dX4_bears_40 ?_
      refine g_aload_n hC 0 dX4_bears_43 rfl rfl ?_
      refine g_get (C := RX4) (T := TX4) (N := 11) (v := .ref aP) hC hinX4 0 1 rfl rfl (by decide) (List.mem_of_getElem? (i := 1) rfl) rfl dX4_bears_44 ?_
      obtain ⟨z47, hz47, hf⟩ := gd_b hf
      refine g_callVi (wr := [oO aG 3 [.ref aT, .ref aP, .ref aW1, .ref aW2, .ref aAC, .int xG_actCount, .ref aKE, .int xG_heardMinutes, .int xG_silentMinutes, .int xG_toldCount, .long xG_seedNow], oO aW1 2 [.ref aP, .int xW1_row, .int xW1_quiets, .int xW1_place, .int xW1_turned], oO aW2 2 [.ref aP, .int z40.1, .int z40.2.1, .int z40.2.2, .int xW2_turned]]) (wn := [oO aG 3 [.ref aT, .ref aP, .ref aW1, .ref aW2, .ref aAC, .int xG_actCount, .ref aKE, .int xG_heardMinutes, .int xG_silentMinutes, .int xG_toldCount, .long xG_seedNow], oO aP 0 [.int xP_walkers, .int xP_light, .int xP_water, .int xP_nerves, .int xP_kinds], oO aW1 2 [.ref aP, .int xW1_row, .int xW1_quiets, .int xW1_place, .int xW1_turned], oO aW2 2 [.ref aP, .int z40.1, .int z40.2.1, .int z40.2.2, .int xW2_turned]]) hC [] (cX1_light_m (kl X) (kD X) aP xP_walkers xP_light xP_water xP_nerves xP_kinds z47 hz47) gX4_bears_X1_light rfl kyX1_light rfl rfl rfl (q0 := 0) rfl [1] [0, 2, 3] [] [0, 3, 1, 2] rfl rfl rfl rfl (by decide) rfl rfl rfl ⟨rfl, rfl⟩ ⟨Nat.le_of_ble_eq_true rfl, Nat.le_of_ble_eq_true rfl⟩ (Nat.le_of_ble_eq_true rfl) rfl dX4_bears_47 ?_
      refine g_aload_n hC 0 dX4_bears_50 rfl rfl ?_
      refine g_get (C := RX4) (T := TX4) (N := 11) (v := .ref aW1) hC hinX4 0 2 rfl rfl (by decide) (List.mem_of_getElem? (i := 2) rfl) rfl dX4_bears_51 ?_
      obtain ⟨z54, hz54, hf⟩ := gd_b hf
      refine g_callVi (wr := [oO aG 3 [.ref aT, .ref aP, .ref aW1, .ref aW2, .ref aAC, .int xG_actCount, .ref aKE, .int xG_heardMinutes, .int xG_silentMinutes, .int xG_toldCount, .long xG_seedNow], oO aP 0 [.int xP_walkers, .int xP_light, .int xP_water, .int xP_nerves, .int xP_kinds], oO aW2 2 [.ref aP, .int z40.1, .int z40.2.1, .int z40.2.2, .int xW2_turned]]) (wn := [oO aG 3 [.ref aT, .ref aP, .ref aW1, .ref aW2, .ref aAC, .int xG_actCount, .ref aKE, .int xG_heardMinutes, .int xG_silentMinutes, .int xG_toldCount, .long xG_seedNow], oO aP 0 [.int xP_walkers, .int xP_light, .int xP_water, .int xP_nerves, .int xP_kinds], oO aW1 2 [.ref aP, .int xW1_row, .int xW1_quiets, .int xW1_place, .int xW1_turned], oO aW2 2 [.ref aP, .int z40.1, .int z40.2.1, .int z40.2.2, .int xW2_turned]]) hC [] (cX3_place_m (kl X) (kD X) aP aW1 xW1_row xW1_quiets xW1_place xW1_turned z54 hz54) gX4_bears_X3_place rfl kyX3_place rfl rfl rfl (q0 := 0) rfl [2] [0, 1, 3] [] [0, 1, 3, 2] rfl rfl rfl rfl (by decide) rfl rfl rfl ⟨rfl, rfl⟩ ⟨Nat.le_of_ble_eq_true rfl, Nat.le_of_ble_eq_true rfl⟩ (Nat.le_of_ble_eq_true rfl) rfl dX4_bears_54 ?_
      refine g_isub hC dX4_bears_57 ?_
      refine g_istore_n (lv' := [(2, .int (z47 - z54)), (0, .ref aG), (1, .int j1)]) hC dX4_bears_58 rfl (by decide) rfl ?_
      refine g_iconst (v := (1 : Int32)) hC dX4_bears_59 ci_1 ?_
      refine g_istore_n (lv' := [(3, .int (1 : Int32)), (2, .int (z47 - z54)), (0, .ref aG), (1, .int j1)]) hC dX4_bears_60 rfl (by decide) rfl ?_
      refine g_lv (lv' := [(0, .ref aG), (1, .int j1), (2, .int (z47 - z54)), (3, .int (1 : Int32))]) [2, 3, 1, 0] rfl ?_
      exact t61  fu j1 (z47 - z54) (1 : Int32) z40.1 z40.2.1 z40.2.2 xW2_turned hf
    · replace hf := gd_t hc hf
      refine g_bipush (v := (-3 : Int32)) hC dX4_bears_26 cb_m3 ?_
      exact hQ ((-3 : Int32), xW2_row, xW2_quiets, xW2_place, xW2_turned) _ _ (gd_s hf) dX4_bears_28
  · replace hf := gd_t hc hf
    refine g_iconst (v := (-1 : Int32)) hC dX4_bears_11 ci_m1 ?_
    exact hQ ((-1 : Int32), xW2_row, xW2_quiets, xW2_place, xW2_turned) _ _ (gd_s hf) dX4_bears_12
theorem kyX4_isTenths : yX4_isTenths.cls ≠ "java/lang/invoke/MethodHandle" ∧ yX4_isTenths.cls ≠ "java/lang/invoke/VarHandle" ∧ (parseMethodDescriptor yX4_isTenths.desc).map (fun d => d.parameters.length) = some 1 := by decide +kernel
set_option maxHeartbeats 4000000 in
set_option maxRecDepth 100000 in
theorem cX4_isTenths_m (l : Launch) (D : va_G)  (j0 : Int32) (z : Int32) (hf : fX4_isTenths j0 = some z) : ∀ sz : Nat, Met l yX4_isTenths wsX4_isTenths ({ frames := 1, cells := 0, slots := 0, locals := 22 } : Room) (kPre D [] [] sz [.int j0]) (kQi D [] [] sz [] z) 0 0 (va_A [] sz) := by
  refine kMet_z (own := RX4) z (fun u => u) (fun u => []) rfl (by decide) rfl ⟨rfl, rfl⟩ (Nat.le_of_ble_eq_true rfl) ?_
  intro X hXl hXD hC hQ
  subst hXl
  subst hXD
  change kG X 0 [(0, .int j0)] [] []
  unfold fX4_isTenths at hf
  refine g_iload_n hC 0 dX4_isTenths_0 rfl rfl ?_
  refine g_iconst (v := (0 : Int32)) hC dX4_isTenths_1 ci_0 ?_
  refine g_bipush (v := (10 : Int32)) hC dX4_isTenths_2 cb_10 ?_
  obtain ⟨z4, hz4, hf⟩ := gd_b hf
  refine g_callSi (wr := []) (wn := []) hC [.int j0, .int (0 : Int32), .int (10 : Int32)] (cX4_within_m (kl X) (kD X) j0 (0 : Int32) (10 : Int32) z4 hz4) gX4_isTenths_X4_within rfl kyX4_within rfl [] [] [] [] rfl rfl rfl rfl (by decide) rfl rfl rfl ⟨rfl, rfl⟩ ⟨Nat.le_of_ble_eq_true rfl, Nat.le_of_ble_eq_true rfl⟩ (Nat.le_of_ble_eq_true rfl) rfl dX4_isTenths_4 ?_
  obtain ⟨hg, hf⟩ := gd_gz hf
  exact hQ (z4) _ _ (gd_s hf) (nz_of hg) dX4_isTenths_7
theorem kyX4_still : yX4_still.cls = RX4 ∧ yX4_still.cls ≠ "java/lang/invoke/MethodHandle" ∧ yX4_still.cls ≠ "java/lang/invoke/VarHandle" ∧ (parseMethodDescriptor yX4_still.desc).map (fun d => d.parameters.length) = some 5 := by decide +kernel
set_option maxHeartbeats 4000000 in
set_option maxRecDepth 100000 in
theorem cX4_still_m (l : Launch) (D : va_G) (aG aT aP aW1 aW2 aAC aKE : Nat) (xG_actCount : Int32) (xG_heardMinutes : Int32) (xG_silentMinutes : Int32) (xG_toldCount : Int32) (xG_seedNow : Int64) (j1 : Int32) (j2 : Int32) (j3 : Int32) (j4 : Int32) (j5 : Int32) (z : Int32) (hf : fX4_still j1 j2 j3 j4 j5 = some z) : ∀ sz : Nat, Met l yX4_still wsX4_still ({ frames := 2, cells := 0, slots := 0, locals := 56 } : Room) (kPre D [] [oO aG 3 [.ref aT, .ref aP, .ref aW1, .ref aW2, .ref aAC, .int xG_actCount, .ref aKE, .int xG_heardMinutes, .int xG_silentMinutes, .int xG_toldCount, .long xG_seedNow]] sz [.ref aG, .int j1, .int j2, .int j3, .int j4, .int j5]) (kQi D [] [oO aG 3 [.ref aT, .ref aP, .ref aW1, .ref aW2, .ref aAC, .int xG_actCount, .ref aKE, .int xG_heardMinutes, .int xG_silentMinutes, .int xG_toldCount, .long xG_seedNow]] sz [oO aG 3 [.ref aT, .ref aP, .ref aW1, .ref aW2, .ref aAC, .int xG_actCount, .ref aKE, .int xG_heardMinutes, .int xG_silentMinutes, .int xG_toldCount, .long xG_seedNow]] z) 0 0 (va_A [oO aG 3 [.ref aT, .ref aP, .ref aW1, .ref aW2, .ref aAC, .int xG_actCount, .ref aKE, .int xG_heardMinutes, .int xG_silentMinutes, .int xG_toldCount, .long xG_seedNow]] sz) := by
  refine kMet_i (own := RX4) z (fun u => u) (fun u => [oO aG 3 [.ref aT, .ref aP, .ref aW1, .ref aW2, .ref aAC, .int xG_actCount, .ref aKE, .int xG_heardMinutes, .int xG_silentMinutes, .int xG_toldCount, .long xG_seedNow]]) rfl (by decide) rfl ⟨rfl, rfl⟩ (Nat.le_of_ble_eq_true rfl) ?_
  intro X hXl hXD hC hQ
  subst hXl
  subst hXD
  change kG X 0 [(0, .ref aG), (1, .int j1), (2, .int j2), (3, .int j3), (4, .int j4), (5, .int j5)] [] [oO aG 3 [.ref aT, .ref aP, .ref aW1, .ref aW2, .ref aAC, .int xG_actCount, .ref aKE, .int xG_heardMinutes, .int xG_silentMinutes, .int xG_toldCount, .long xG_seedNow]]
  have t122 : ∀ (k49 : Int32 → Int32 → Int32 → Int32 → Int32 → Int64 → Int64 → Int32 → Option (Int32)) (hk49 : ∀ (j1 : Int32) (j2 : Int32) (j3 : Int32) (j4 : Int32) (j5 : Int32) (j6 : Int64) (j8 : Int64) (j10 : Int32), k49 j1 j2 j3 j4 j5 j6 j8 j10 = some z → kG X 49 [(1, .int j1), (2, .int j2), (3, .int j3), (4, .int j4), (5, .int j5), (6, .long j6), (8, .long j8), (10, .int j10)] [] [oO aG 3 [.ref aT, .ref aP, .ref aW1, .ref aW2, .ref aAC, .int xG_actCount, .ref aKE, .int xG_heardMinutes, .int xG_silentMinutes, .int xG_toldCount, .long xG_seedNow]]) (j1 : Int32) (j2 : Int32) (j3 : Int32) (j4 : Int32) (j5 : Int32) (j8 : Int64) (j10 : Int32) (y0 : Int32) (y1 : Int64), fX4_still_b122 k49 j1 j2 j3 j4 j5 j8 j10 y0 y1 = some z → kG X 122 [(1, .int j1), (2, .int j2), (3, .int j3), (4, .int j4), (5, .int j5), (8, .long j8), (10, .int j10)] [.int y0, .long y1] [oO aG 3 [.ref aT, .ref aP, .ref aW1, .ref aW2, .ref aAC, .int xG_actCount, .ref aKE, .int xG_heardMinutes, .int xG_silentMinutes, .int xG_toldCount, .long xG_seedNow]] := by
    intro k49 hk49 j1 j2 j3 j4 j5 j8 j10 y0 y1 hf
    unfold fX4_still_b122 at hf
    refine g_i2l hC dX4_still_122 ?_
    refine g_lmul hC dX4_still_123 ?_
    refine g_lstore (lv' := [(6, .long (y1 * y0.toInt64)), (1, .int j1), (2, .int j2), (3, .int j3), (4, .int j4), (5, .int j5), (8, .long j8), (10, .int j10)]) hC dX4_still_124 (by decide) rfl ?_
    refine g_iinc (v := (j10 + (1 : Int32))) (lv' := [(10, .int (j10 + (1 : Int32))), (6, .long (y1 * y0.toInt64)), (1, .int j1), (2, .int j2), (3, .int j3), (4, .int j4), (5, .int j5), (8, .long j8)]) hC 7 dX4_still_126 rfl (ii _ ci_1) (by decide) rfl ?_
    refine g_goto (tgt := 49) hC dX4_still_129 (by decide) ?_
    refine g_lv (lv' := [(1, .int j1), (2, .int j2), (3, .int j3), (4, .int j4), (5, .int j5), (6, .long (y1 * y0.toInt64)), (8, .long j8), (10, .int (j10 + (1 : Int32)))]) [2, 3, 4, 5, 6, 1, 7, 0] rfl ?_
    exact hk49 j1 j2 j3 j4 j5 (y1 * y0.toInt64) j8 (j10 + (1 : Int32)) hf
  have t98 : ∀ (k49 : Int32 → Int32 → Int32 → Int32 → Int32 → Int64 → Int64 → Int32 → Option (Int32)) (hk49 : ∀ (j1 : Int32) (j2 : Int32) (j3 : Int32) (j4 : Int32) (j5 : Int32) (j6 : Int64) (j8 : Int64) (j10 : Int32), k49 j1 j2 j3 j4 j5 j6 j8 j10 = some z → kG X 49 [(1, .int j1), (2, .int j2), (3, .int j3), (4, .int j4), (5, .int j5), (6, .long j6), (8, .long j8), (10, .int j10)] [] [oO aG 3 [.ref aT, .ref aP, .ref aW1, .ref aW2, .ref aAC, .int xG_actCount, .ref aKE, .int xG_heardMinutes, .int xG_silentMinutes, .int xG_toldCount, .long xG_seedNow]]) (j1 : Int32) (j2 : Int32) (j3 : Int32) (j4 : Int32) (j5 : Int32) (j6 : Int64) (j10 : Int32) (j11 : Int32) (y0 : Int64), fX4_still_b98 k49 j1 j2 j3 j4 j5 j6 j10 j11 y0 = some z → kG X 98 [(1, .int j1), (2, .int j2), (3, .int j3), (4, .int j4), (5, .int j5), (6, .long j6), (10, .int j10), (11, .int j11)] [.long y0] [oO aG 3 [.ref aT, .ref aP, .ref aW1, .ref aW2, .ref aAC, .int xG_actCount, .ref aKE, .int xG_heardMinutes, .int xG_silentMinutes, .int xG_toldCount, .long xG_seedNow]] := by
    intro k49 hk49 j1 j2 j3 j4 j5 j6 j10 j11 y0 hf
    unfold fX4_still_b98 at hf
    refine g_lstore (lv' := [(8, .long y0), (1, .int j1), (2, .int j2), (3, .int j3), (4, .int j4), (5, .int j5), (6, .long j6), (10, .int j10), (11, .int j11)]) hC dX4_still_98 (by decide) rfl ?_
    refine g_lload hC 6 dX4_still_100 rfl ?_
    refine g_bipush (v := (10 : Int32)) hC dX4_still_102 cb_10 ?_
    refine g_iload hC 4 dX4_still_104 rfl ?_
    refine g_isub hC dX4_still_106 ?_
    refine g_i2l hC dX4_still_107 ?_
    refine g_lmul hC dX4_still_108 ?_
    refine g_iload hC 8 dX4_still_109 rfl ?_
    refine g_if_eq (tgt := 118) hC dX4_still_111 (by decide) (fun hc => ?_) (fun hc => ?_)
    · replace hf := gd_t hc hf
      refine g_bipush (v := (10 : Int32)) hC dX4_still_118 cb_10 ?_
      refine g_iload_n hC 3 dX4_still_120 rfl rfl ?_
      refine g_isub hC dX4_still_121 ?_
      refine g_lv (lv' := [(1, .int j1), (2, .int j2), (3, .int j3), (4, .int j4), (5, .int j5), (8, .long y0), (10, .int j10)]) [1, 2, 3, 4, 5, 0, 7] rfl ?_
      exact t122 k49 hk49 j1 j2 j3 j4 j5 y0 j10 ((10 : Int32) - j3) (j6 * ((10 : Int32) - j4).toInt64) hf
    · replace hf := gd_f hc hf
      refine g_iload_n hC 3 dX4_still_114 rfl rfl ?_
      refine g_goto (tgt := 122) hC dX4_still_115 (by decide) ?_
      refine g_lv (lv' := [(1, .int j1), (2, .int j2), (3, .int j3), (4, .int j4), (5, .int j5), (8, .long y0), (10, .int j10)]) [1, 2, 3, 4, 5, 0, 7] rfl ?_
      exact t122 k49 hk49 j1 j2 j3 j4 j5 y0 j10 j3 (j6 * ((10 : Int32) - j4).toInt64) hf
  have t70 : ∀ (k49 : Int32 → Int32 → Int32 → Int32 → Int32 → Int64 → Int64 → Int32 → Option (Int32)) (hk49 : ∀ (j1 : Int32) (j2 : Int32) (j3 : Int32) (j4 : Int32) (j5 : Int32) (j6 : Int64) (j8 : Int64) (j10 : Int32), k49 j1 j2 j3 j4 j5 j6 j8 j10 = some z → kG X 49 [(1, .int j1), (2, .int j2), (3, .int j3), (4, .int j4), (5, .int j5), (6, .long j6), (8, .long j8), (10, .int j10)] [] [oO aG 3 [.ref aT, .ref aP, .ref aW1, .ref aW2, .ref aAC, .int xG_actCount, .ref aKE, .int xG_heardMinutes, .int xG_silentMinutes, .int xG_toldCount, .long xG_seedNow]]) (j1 : Int32) (j2 : Int32) (j3 : Int32) (j4 : Int32) (j5 : Int32) (j6 : Int64) (j8 : Int64) (j10 : Int32) (y0 : Int32), fX4_still_b70 k49 j1 j2 j3 j4 j5 j6 j8 j10 y0 = some z → kG X 70 [(1, .int j1), (2, .int j2), (3, .int j3), (4, .int j4), (5, .int j5), (6, .long j6), (8, .long j8), (10, .int j10)] [.int y0] [oO aG 3 [.ref aT, .ref aP, .ref aW1, .ref aW2, .ref aAC, .int xG_actCount, .ref aKE, .int xG_heardMinutes, .int xG_silentMinutes, .int xG_toldCount, .long xG_seedNow]] := by
    intro k49 hk49 j1 j2 j3 j4 j5 j6 j8 j10 y0 hf
    unfold fX4_still_b70 at hf
    refine g_istore (lv' := [(11, .int y0), (1, .int j1), (2, .int j2), (3, .int j3), (4, .int j4), (5, .int j5), (6, .long j6), (8, .long j8), (10, .int j10)]) hC dX4_still_70 (by decide) rfl ?_
    refine g_iload hC 0 dX4_still_72 rfl ?_
    refine g_if_eq (tgt := 81) hC dX4_still_74 (by decide) (fun hc => ?_) (fun hc => ?_)
    · replace hf := gd_t hc hf
      refine g_lload hC 7 dX4_still_81 rfl ?_
      refine g_ldc2 (v := (100 : Int64)) hC dX4_still_83 (List.mem_of_getElem? (i := 1) rfl) ?_
      refine g_lmul hC dX4_still_86 ?_
      refine g_lload hC 6 dX4_still_87 rfl ?_
      refine g_iload hC 4 dX4_still_89 rfl ?_
      refine g_i2l hC dX4_still_91 ?_
      refine g_lmul hC dX4_still_92 ?_
      refine g_ldc2 (v := (10 : Int64)) hC dX4_still_93 (List.mem_of_getElem? (i := 2) rfl) ?_
      refine g_lmul hC dX4_still_96 ?_
      refine g_ladd hC dX4_still_97 ?_
      refine g_lv (lv' := [(1, .int j1), (2, .int j2), (3, .int j3), (4, .int j4), (5, .int j5), (6, .long j6), (10, .int j10), (11, .int y0)]) [1, 2, 3, 4, 5, 6, 8, 0] rfl ?_
      exact t98 k49 hk49 j1 j2 j3 j4 j5 j6 j10 y0 ((j8 * (100 : Int64)) + ((j6 * j4.toInt64) * (10 : Int64))) hf
    · replace hf := gd_f hc hf
      refine g_lconst (v := (0 : Int64)) hC dX4_still_77 rfl ?_
      refine g_goto (tgt := 98) hC dX4_still_78 (by decide) ?_
      refine g_lv (lv' := [(1, .int j1), (2, .int j2), (3, .int j3), (4, .int j4), (5, .int j5), (6, .long j6), (10, .int j10), (11, .int y0)]) [1, 2, 3, 4, 5, 6, 8, 0] rfl ?_
      exact t98 k49 hk49 j1 j2 j3 j4 j5 j6 j10 y0 (0 : Int64) hf
  have t49 : ∀  (n : Nat) (j1 : Int32) (j2 : Int32) (j3 : Int32) (j4 : Int32) (j5 : Int32) (j6 : Int64) (j8 : Int64) (j10 : Int32), lp (fun _ _ _ _ _ _ _ _ => none) (fX4_still_b49_S ) n j1 j2 j3 j4 j5 j6 j8 j10 = some z → kG X 49 [(1, .int j1), (2, .int j2), (3, .int j3), (4, .int j4), (5, .int j5), (6, .long j6), (8, .long j8), (10, .int j10)] [] [oO aG 3 [.ref aT, .ref aP, .ref aW1, .ref aW2, .ref aAC, .int xG_actCount, .ref aKE, .int xG_heardMinutes, .int xG_silentMinutes, .int xG_toldCount, .long xG_seedNow]] := by
    intro  n
    induction n with
    | zero => intro j1 j2 j3 j4 j5 j6 j8 j10 hf; cases hf
    | succ n hk49 =>
      intro j1 j2 j3 j4 j5 j6 j8 j10 hf
      rw [lp_s] at hf
      revert hf hk49
      generalize lp (fun _ _ _ _ _ _ _ _ => none) (fX4_still_b49_S ) n = k49
      intro hk49 hf
      unfold fX4_still_b49_S at hf
      refine g_iload hC 7 dX4_still_49 rfl ?_
      refine g_iload_n hC 0 dX4_still_51 rfl rfl ?_
      refine g_icmp_ge (tgt := 132) hC dX4_still_52 (by decide) (fun hc => ?_) (fun hc => ?_)
      · replace hf := gd_t hc hf
        refine g_lload hC 5 dX4_still_132 rfl ?_
        refine g_lload hC 6 dX4_still_134 rfl ?_
        refine g_ladd hC dX4_still_136 ?_
        refine g_lconst (v := (0 : Int64)) hC dX4_still_137 rfl ?_
        refine g_lcmp hC dX4_still_138 ?_
        refine g_if_ne (tgt := 147) hC dX4_still_139 (by decide) (fun hc => ?_) (fun hc => ?_)
        · replace hf := gd_f hc hf
          refine g_lload hC 5 dX4_still_147 rfl ?_
          refine g_lload hC 5 dX4_still_149 rfl ?_
          refine g_lload hC 6 dX4_still_151 rfl ?_
          refine g_ladd hC dX4_still_153 ?_
          refine g_iload hC 4 dX4_still_154 rfl ?_
          obtain ⟨z156, hz156, hf⟩ := gd_b hf
          refine g_callSi (wr := [oO aG 3 [.ref aT, .ref aP, .ref aW1, .ref aW2, .ref aAC, .int xG_actCount, .ref aKE, .int xG_heardMinutes, .int xG_silentMinutes, .int xG_toldCount, .long xG_seedNow]]) (wn := [oO aG 3 [.ref aT, .ref aP, .ref aW1, .ref aW2, .ref aAC, .int xG_actCount, .ref aKE, .int xG_heardMinutes, .int xG_silentMinutes, .int xG_toldCount, .long xG_seedNow]]) hC [.long j6, .long (j6 + j8), .int j5] (cX4_fraction_m (kl X) (kD X) j6 (j6 + j8) j5 z156 hz156) gX4_still_X4_fraction rfl kyX4_fraction rfl [] [0] [] [0] rfl rfl rfl rfl (by decide) rfl rfl rfl ⟨rfl, rfl⟩ ⟨Nat.le_of_ble_eq_true rfl, Nat.le_of_ble_eq_true rfl⟩ (Nat.le_of_ble_eq_true rfl) rfl dX4_still_156 ?_
          exact hQ (z156) _ _ (gd_s hf) dX4_still_159
        · replace hf := gd_t hc hf
          refine g_bipush (v := (-3 : Int32)) hC dX4_still_142 cb_m3 ?_
          refine g_goto (tgt := 159) hC dX4_still_144 (by decide) ?_
          exact hQ ((-3 : Int32)) _ _ (gd_s hf) dX4_still_159
      · replace hf := gd_f hc hf
        refine g_iload_n hC 1 dX4_still_55 rfl rfl ?_
        refine g_iload hC 7 dX4_still_56 rfl ?_
        refine g_ishr hC dX4_still_58 ?_
        refine g_iconst (v := (1 : Int32)) hC dX4_still_59 ci_1 ?_
        refine g_iand hC dX4_still_60 ?_
        refine g_iconst (v := (1 : Int32)) hC dX4_still_61 ci_1 ?_
        refine g_icmp_ne (tgt := 69) hC dX4_still_62 (by decide) (fun hc => ?_) (fun hc => ?_)
        · replace hf := gd_f hc hf
          refine g_iconst (v := (0 : Int32)) hC dX4_still_69 ci_0 ?_
          exact t70 k49 hk49 j1 j2 j3 j4 j5 j6 j8 j10 (0 : Int32) hf
        · replace hf := gd_t hc hf
          refine g_iconst (v := (1 : Int32)) hC dX4_still_65 ci_1 ?_
          refine g_goto (tgt := 70) hC dX4_still_66 (by decide) ?_
          exact t70 k49 hk49 j1 j2 j3 j4 j5 j6 j8 j10 (1 : Int32) hf
  unfold fX4_still at hf
  refine g_iload_n hC 1 dX4_still_0 rfl rfl ?_
  refine g_iconst (v := (1 : Int32)) hC dX4_still_1 ci_1 ?_
  refine g_iconst (v := (4 : Int32)) hC dX4_still_2 ci_4 ?_
  obtain ⟨z3, hz3, hf⟩ := gd_b hf
  refine g_callSi (wr := [oO aG 3 [.ref aT, .ref aP, .ref aW1, .ref aW2, .ref aAC, .int xG_actCount, .ref aKE, .int xG_heardMinutes, .int xG_silentMinutes, .int xG_toldCount, .long xG_seedNow]]) (wn := [oO aG 3 [.ref aT, .ref aP, .ref aW1, .ref aW2, .ref aAC, .int xG_actCount, .ref aKE, .int xG_heardMinutes, .int xG_silentMinutes, .int xG_toldCount, .long xG_seedNow]]) hC [.int j1, .int (1 : Int32), .int (4 : Int32)] (cX4_within_m (kl X) (kD X) j1 (1 : Int32) (4 : Int32) z3 hz3) gX4_still_X4_within rfl kyX4_within rfl [] [0] [] [0] rfl rfl rfl rfl (by decide) rfl rfl rfl ⟨rfl, rfl⟩ ⟨Nat.le_of_ble_eq_true rfl, Nat.le_of_ble_eq_true rfl⟩ (Nat.le_of_ble_eq_true rfl) rfl dX4_still_3 ?_
  refine g_if_eq (tgt := 37) hC dX4_still_6 (by decide) (fun hc => ?_) (fun hc => ?_)
  · replace hf := gd_t hc hf
    refine g_bipush (v := (-2 : Int32)) hC dX4_still_37 cb_m2 ?_
    exact hQ ((-2 : Int32)) _ _ (gd_s hf) dX4_still_39
  · replace hf := gd_f hc hf
    refine g_iload_n hC 2 dX4_still_9 rfl rfl ?_
    refine g_iconst (v := (0 : Int32)) hC dX4_still_10 ci_0 ?_
    refine g_iconst (v := (1 : Int32)) hC dX4_still_11 ci_1 ?_
    refine g_iload_n hC 1 dX4_still_12 rfl rfl ?_
    refine g_ishl hC dX4_still_13 ?_
    refine g_iconst (v := (1 : Int32)) hC dX4_still_14 ci_1 ?_
    refine g_isub hC dX4_still_15 ?_
    obtain ⟨z16, hz16, hf⟩ := gd_b hf
    refine g_callSi (wr := [oO aG 3 [.ref aT, .ref aP, .ref aW1, .ref aW2, .ref aAC, .int xG_actCount, .ref aKE, .int xG_heardMinutes, .int xG_silentMinutes, .int xG_toldCount, .long xG_seedNow]]) (wn := [oO aG 3 [.ref aT, .ref aP, .ref aW1, .ref aW2, .ref aAC, .int xG_actCount, .ref aKE, .int xG_heardMinutes, .int xG_silentMinutes, .int xG_toldCount, .long xG_seedNow]]) hC [.int j2, .int (0 : Int32), .int (((1 : Int32) <<< (j1 &&& 31)) - (1 : Int32))] (cX4_within_m (kl X) (kD X) j2 (0 : Int32) (((1 : Int32) <<< (j1 &&& 31)) - (1 : Int32)) z16 hz16) gX4_still_X4_within rfl kyX4_within rfl [] [0] [] [0] rfl rfl rfl rfl (by decide) rfl rfl rfl ⟨rfl, rfl⟩ ⟨Nat.le_of_ble_eq_true rfl, Nat.le_of_ble_eq_true rfl⟩ (Nat.le_of_ble_eq_true rfl) rfl dX4_still_16 ?_
    refine g_if_eq (tgt := 37) hC dX4_still_19 (by decide) (fun hc => ?_) (fun hc => ?_)
    · replace hf := gd_t hc hf
      refine g_bipush (v := (-2 : Int32)) hC dX4_still_37 cb_m2 ?_
      exact hQ ((-2 : Int32)) _ _ (gd_s hf) dX4_still_39
    · replace hf := gd_f hc hf
      refine g_iload_n hC 3 dX4_still_22 rfl rfl ?_
      obtain ⟨z23, hz23, hf⟩ := gd_b hf
      refine g_callSi (wr := [oO aG 3 [.ref aT, .ref aP, .ref aW1, .ref aW2, .ref aAC, .int xG_actCount, .ref aKE, .int xG_heardMinutes, .int xG_silentMinutes, .int xG_toldCount, .long xG_seedNow]]) (wn := [oO aG 3 [.ref aT, .ref aP, .ref aW1, .ref aW2, .ref aAC, .int xG_actCount, .ref aKE, .int xG_heardMinutes, .int xG_silentMinutes, .int xG_toldCount, .long xG_seedNow]]) hC [.int j3] (cX4_isTenths_m (kl X) (kD X) j3 z23 hz23) gX4_still_X4_isTenths rfl kyX4_isTenths rfl [] [0] [] [0] rfl rfl rfl rfl (by decide) rfl rfl rfl ⟨rfl, rfl⟩ ⟨Nat.le_of_ble_eq_true rfl, Nat.le_of_ble_eq_true rfl⟩ (Nat.le_of_ble_eq_true rfl) rfl dX4_still_23 ?_
      refine g_if_eq (tgt := 37) hC dX4_still_26 (by decide) (fun hc => ?_) (fun hc => ?_)
      · replace hf := gd_t hc hf
        refine g_bipush (v := (-2 : Int32)) hC dX4_still_37 cb_m2 ?_
        exact hQ ((-2 : Int32)) _ _ (gd_s hf) dX4_still_39
      · replace hf := gd_f hc hf
        refine g_iload hC 4 dX4_still_29 rfl ?_
        obtain ⟨z31, hz31, hf⟩ := gd_b hf
        refine g_callSi (wr := [oO aG 3 [.ref aT, .ref aP, .ref aW1, .ref aW2, .ref aAC, .int xG_actCount, .ref aKE, .int xG_heardMinutes, .int xG_silentMinutes, .int xG_toldCount, .long xG_seedNow]]) (wn := [oO aG 3 [.ref aT, .ref aP, .ref aW1, .ref aW2, .ref aAC, .int xG_actCount, .ref aKE, .int xG_heardMinutes, .int xG_silentMinutes, .int xG_toldCount, .long xG_seedNow]]) hC [.int j4] (cX4_isTenths_m (kl X) (kD X) j4 z31 hz31) gX4_still_X4_isTenths rfl kyX4_isTenths rfl [] [0] [] [0] rfl rfl rfl rfl (by decide) rfl rfl rfl ⟨rfl, rfl⟩ ⟨Nat.le_of_ble_eq_true rfl, Nat.le_of_ble_eq_true rfl⟩ (Nat.le_of_ble_eq_true rfl) rfl dX4_still_31 ?_
        refine g_if_ne (tgt := 40) hC dX4_still_34 (by decide) (fun hc => ?_) (fun hc => ?_)
        · replace hf := gd_f hc hf
          refine g_lconst (v := (1 : Int64)) hC dX4_still_40 rfl ?_
          refine g_lstore (lv' := [(6, .long (1 : Int64)), (0, .ref aG), (1, .int j1), (2, .int j2), (3, .int j3), (4, .int j4), (5, .int j5)]) hC dX4_still_41 (by decide) rfl ?_
          refine g_lconst (v := (0 : Int64)) hC dX4_still_43 rfl ?_
          refine g_lstore (lv' := [(8, .long (0 : Int64)), (6, .long (1 : Int64)), (0, .ref aG), (1, .int j1), (2, .int j2), (3, .int j3), (4, .int j4), (5, .int j5)]) hC dX4_still_44 (by decide) rfl ?_
          refine g_iconst (v := (0 : Int32)) hC dX4_still_46 ci_0 ?_
          refine g_istore (lv' := [(10, .int (0 : Int32)), (8, .long (0 : Int64)), (6, .long (1 : Int64)), (0, .ref aG), (1, .int j1), (2, .int j2), (3, .int j3), (4, .int j4), (5, .int j5)]) hC dX4_still_47 (by decide) rfl ?_
          refine g_lv (lv' := [(1, .int j1), (2, .int j2), (3, .int j3), (4, .int j4), (5, .int j5), (6, .long (1 : Int64)), (8, .long (0 : Int64)), (10, .int (0 : Int32))]) [4, 5, 6, 7, 8, 2, 1, 0] rfl ?_
          exact t49  fu j1 j2 j3 j4 j5 (1 : Int64) (0 : Int64) (0 : Int32) hf
        · replace hf := gd_t hc hf
          refine g_bipush (v := (-2 : Int32)) hC dX4_still_37 cb_m2 ?_
          exact hQ ((-2 : Int32)) _ _ (gd_s hf) dX4_still_39
theorem kyX4_pebbles : yX4_pebbles.cls = RX4 ∧ yX4_pebbles.cls ≠ "java/lang/invoke/MethodHandle" ∧ yX4_pebbles.cls ≠ "java/lang/invoke/VarHandle" ∧ (parseMethodDescriptor yX4_pebbles.desc).map (fun d => d.parameters.length) = some 3 := by decide +kernel
set_option maxHeartbeats 4000000 in
set_option maxRecDepth 100000 in
theorem cX4_pebbles_m (l : Launch) (D : va_G) (aG aT aP aW1 aW2 aAC aKE : Nat) (xG_actCount : Int32) (xG_heardMinutes : Int32) (xG_silentMinutes : Int32) (xG_toldCount : Int32) (xG_seedNow : Int64) (j1 : Int32) (j2 : Int32) (j3 : Int32) (z : Int32) (hf : fX4_pebbles j1 j2 j3 = some z) : ∀ sz : Nat, Met l yX4_pebbles wsX4_pebbles ({ frames := 1, cells := 0, slots := 0, locals := 22 } : Room) (kPre D [] [oO aG 3 [.ref aT, .ref aP, .ref aW1, .ref aW2, .ref aAC, .int xG_actCount, .ref aKE, .int xG_heardMinutes, .int xG_silentMinutes, .int xG_toldCount, .long xG_seedNow]] sz [.ref aG, .int j1, .int j2, .int j3]) (kQi D [] [oO aG 3 [.ref aT, .ref aP, .ref aW1, .ref aW2, .ref aAC, .int xG_actCount, .ref aKE, .int xG_heardMinutes, .int xG_silentMinutes, .int xG_toldCount, .long xG_seedNow]] sz [oO aG 3 [.ref aT, .ref aP, .ref aW1, .ref aW2, .ref aAC, .int xG_actCount, .ref aKE, .int xG_heardMinutes, .int xG_silentMinutes, .int xG_toldCount, .long xG_seedNow]] z) 0 0 (va_A [oO aG 3 [.ref aT, .ref aP, .ref aW1, .ref aW2, .ref aAC, .int xG_actCount, .ref aKE, .int xG_heardMinutes, .int xG_silentMinutes, .int xG_toldCount, .long xG_seedNow]] sz) := by
  refine kMet_i (own := RX4) z (fun u => u) (fun u => [oO aG 3 [.ref aT, .ref aP, .ref aW1, .ref aW2, .ref aAC, .int xG_actCount, .ref aKE, .int xG_heardMinutes, .int xG_silentMinutes, .int xG_toldCount, .long xG_seedNow]]) rfl (by decide) rfl ⟨rfl, rfl⟩ (Nat.le_of_ble_eq_true rfl) ?_
  intro X hXl hXD hC hQ
  subst hXl
  subst hXD
  change kG X 0 [(0, .ref aG), (1, .int j1), (2, .int j2), (3, .int j3)] [] [oO aG 3 [.ref aT, .ref aP, .ref aW1, .ref aW2, .ref aAC, .int xG_actCount, .ref aKE, .int xG_heardMinutes, .int xG_silentMinutes, .int xG_toldCount, .long xG_seedNow]]
  have t53 : ∀  (j2 : Int32) (j3 : Int32) (j4 : Int32) (j5 : Int32), fX4_pebbles_b53  j2 j3 j4 j5 = some z → kG X 53 [(2, .int j2), (3, .int j3), (4, .int j4), (5, .int j5)] [] [oO aG 3 [.ref aT, .ref aP, .ref aW1, .ref aW2, .ref aAC, .int xG_actCount, .ref aKE, .int xG_heardMinutes, .int xG_silentMinutes, .int xG_toldCount, .long xG_seedNow]] := by
    intro j2 j3 j4 j5 hf
    unfold fX4_pebbles_b53 at hf
    refine g_iload hC 2 dX4_pebbles_53 rfl ?_
    refine g_iload_n hC 0 dX4_pebbles_55 rfl rfl ?_
    refine g_icmp_gt (tgt := 62) hC dX4_pebbles_56 (by decide) (fun hc => ?_) (fun hc => ?_)
    · replace hf := gd_t hc hf
      refine g_iload_n hC 1 dX4_pebbles_62 rfl rfl ?_
      refine g_if_eq (tgt := 77) hC dX4_pebbles_63 (by decide) (fun hc => ?_) (fun hc => ?_)
      · replace hf := gd_t hc hf
        refine g_iload hC 3 dX4_pebbles_77 rfl ?_
        exact hQ (j5) _ _ (gd_s hf) dX4_pebbles_79
      · replace hf := gd_f hc hf
        refine g_iload_n hC 0 dX4_pebbles_66 rfl rfl ?_
        refine g_if_le (tgt := 77) hC dX4_pebbles_67 (by decide) (fun hc => ?_) (fun hc => ?_)
        · replace hf := gd_t hc hf
          refine g_iload hC 3 dX4_pebbles_77 rfl ?_
          exact hQ (j5) _ _ (gd_s hf) dX4_pebbles_79
        · replace hf := gd_f hc hf
          refine g_iload hC 3 dX4_pebbles_70 rfl ?_
          refine g_iconst (v := (1 : Int32)) hC dX4_pebbles_72 ci_1 ?_
          refine g_iadd hC dX4_pebbles_73 ?_
          refine g_goto (tgt := 79) hC dX4_pebbles_74 (by decide) ?_
          exact hQ ((j5 + (1 : Int32))) _ _ (gd_s hf) dX4_pebbles_79
    · replace hf := gd_f hc hf
      refine g_bipush (v := (-9 : Int32)) hC dX4_pebbles_59 cb_m9 ?_
      exact hQ ((-9 : Int32)) _ _ (gd_s hf) dX4_pebbles_61
  have t28 : ∀  (n : Nat) (j1 : Int32) (j2 : Int32) (j3 : Int32) (j4 : Int32) (j5 : Int32), lp (fun _ _ _ _ _ => none) (fX4_pebbles_b28_S ) n j1 j2 j3 j4 j5 = some z → kG X 28 [(1, .int j1), (2, .int j2), (3, .int j3), (4, .int j4), (5, .int j5)] [] [oO aG 3 [.ref aT, .ref aP, .ref aW1, .ref aW2, .ref aAC, .int xG_actCount, .ref aKE, .int xG_heardMinutes, .int xG_silentMinutes, .int xG_toldCount, .long xG_seedNow]] := by
    intro  n
    induction n with
    | zero => intro j1 j2 j3 j4 j5 hf; cases hf
    | succ n hk28 =>
      intro j1 j2 j3 j4 j5 hf
      rw [lp_s] at hf
      revert hf hk28
      generalize lp (fun _ _ _ _ _ => none) (fX4_pebbles_b28_S ) n = k28
      intro hk28 hf
      unfold fX4_pebbles_b28_S at hf
      refine g_iload hC 4 dX4_pebbles_28 rfl ?_
      refine g_bipush (v := (6 : Int32)) hC dX4_pebbles_30 cb_6 ?_
      refine g_icmp_ge (tgt := 53) hC dX4_pebbles_32 (by decide) (fun hc => ?_) (fun hc => ?_)
      · replace hf := gd_t hc hf
        refine g_lv (lv' := [(2, .int j2), (3, .int j3), (4, .int j4), (5, .int j5)]) [1, 2, 3, 4] rfl ?_
        exact t53  j2 j3 j4 j5 hf
      · replace hf := gd_f hc hf
        refine g_iload hC 3 dX4_pebbles_35 rfl ?_
        refine g_iload_n hC 1 dX4_pebbles_37 rfl rfl ?_
        refine g_icmp_gt (tgt := 53) hC dX4_pebbles_38 (by decide) (fun hc => ?_) (fun hc => ?_)
        · replace hf := gd_t hc hf
          refine g_lv (lv' := [(2, .int j2), (3, .int j3), (4, .int j4), (5, .int j5)]) [1, 2, 3, 4] rfl ?_
          exact t53  j2 j3 j4 j5 hf
        · replace hf := gd_f hc hf
          refine g_iload hC 3 dX4_pebbles_41 rfl ?_
          refine g_iload_n hC 0 dX4_pebbles_43 rfl rfl ?_
          refine g_imul hC dX4_pebbles_44 ?_
          refine g_istore (lv' := [(4, .int (j4 * j1)), (1, .int j1), (2, .int j2), (3, .int j3), (5, .int j5)]) hC dX4_pebbles_45 (by decide) rfl ?_
          refine g_iinc (v := (j5 + (1 : Int32))) (lv' := [(5, .int (j5 + (1 : Int32))), (4, .int (j4 * j1)), (1, .int j1), (2, .int j2), (3, .int j3)]) hC 4 dX4_pebbles_47 rfl (ii _ ci_1) (by decide) rfl ?_
          refine g_goto (tgt := 28) hC dX4_pebbles_50 (by decide) ?_
          refine g_lv (lv' := [(1, .int j1), (2, .int j2), (3, .int j3), (4, .int (j4 * j1)), (5, .int (j5 + (1 : Int32)))]) [2, 3, 4, 1, 0] rfl ?_
          exact hk28 j1 j2 j3 (j4 * j1) (j5 + (1 : Int32)) hf
  unfold fX4_pebbles at hf
  refine g_iload_n hC 1 dX4_pebbles_0 rfl rfl ?_
  refine g_iconst (v := (1 : Int32)) hC dX4_pebbles_1 ci_1 ?_
  refine g_iconst (v := (5 : Int32)) hC dX4_pebbles_2 ci_5 ?_
  obtain ⟨z3, hz3, hf⟩ := gd_b hf
  refine g_callSi (wr := [oO aG 3 [.ref aT, .ref aP, .ref aW1, .ref aW2, .ref aAC, .int xG_actCount, .ref aKE, .int xG_heardMinutes, .int xG_silentMinutes, .int xG_toldCount, .long xG_seedNow]]) (wn := [oO aG 3 [.ref aT, .ref aP, .ref aW1, .ref aW2, .ref aAC, .int xG_actCount, .ref aKE, .int xG_heardMinutes, .int xG_silentMinutes, .int xG_toldCount, .long xG_seedNow]]) hC [.int j1, .int (1 : Int32), .int (5 : Int32)] (cX4_within_m (kl X) (kD X) j1 (1 : Int32) (5 : Int32) z3 hz3) gX4_pebbles_X4_within rfl kyX4_within rfl [] [0] [] [0] rfl rfl rfl rfl (by decide) rfl rfl rfl ⟨rfl, rfl⟩ ⟨Nat.le_of_ble_eq_true rfl, Nat.le_of_ble_eq_true rfl⟩ (Nat.le_of_ble_eq_true rfl) rfl dX4_pebbles_3 ?_
  refine g_if_eq (tgt := 19) hC dX4_pebbles_6 (by decide) (fun hc => ?_) (fun hc => ?_)
  · replace hf := gd_t hc hf
    refine g_bipush (v := (-2 : Int32)) hC dX4_pebbles_19 cb_m2 ?_
    exact hQ ((-2 : Int32)) _ _ (gd_s hf) dX4_pebbles_21
  · replace hf := gd_f hc hf
    refine g_iload_n hC 2 dX4_pebbles_9 rfl rfl ?_
    refine g_iconst (v := (0 : Int32)) hC dX4_pebbles_10 ci_0 ?_
    refine g_bipush (v := (50 : Int32)) hC dX4_pebbles_11 cb_50 ?_
    obtain ⟨z13, hz13, hf⟩ := gd_b hf
    refine g_callSi (wr := [oO aG 3 [.ref aT, .ref aP, .ref aW1, .ref aW2, .ref aAC, .int xG_actCount, .ref aKE, .int xG_heardMinutes, .int xG_silentMinutes, .int xG_toldCount, .long xG_seedNow]]) (wn := [oO aG 3 [.ref aT, .ref aP, .ref aW1, .ref aW2, .ref aAC, .int xG_actCount, .ref aKE, .int xG_heardMinutes, .int xG_silentMinutes, .int xG_toldCount, .long xG_seedNow]]) hC [.int j2, .int (0 : Int32), .int (50 : Int32)] (cX4_within_m (kl X) (kD X) j2 (0 : Int32) (50 : Int32) z13 hz13) gX4_pebbles_X4_within rfl kyX4_within rfl [] [0] [] [0] rfl rfl rfl rfl (by decide) rfl rfl rfl ⟨rfl, rfl⟩ ⟨Nat.le_of_ble_eq_true rfl, Nat.le_of_ble_eq_true rfl⟩ (Nat.le_of_ble_eq_true rfl) rfl dX4_pebbles_13 ?_
    refine g_if_ne (tgt := 22) hC dX4_pebbles_16 (by decide) (fun hc => ?_) (fun hc => ?_)
    · replace hf := gd_f hc hf
      refine g_iconst (v := (1 : Int32)) hC dX4_pebbles_22 ci_1 ?_
      refine g_istore (lv' := [(4, .int (1 : Int32)), (0, .ref aG), (1, .int j1), (2, .int j2), (3, .int j3)]) hC dX4_pebbles_23 (by decide) rfl ?_
      refine g_iconst (v := (0 : Int32)) hC dX4_pebbles_25 ci_0 ?_
      refine g_istore (lv' := [(5, .int (0 : Int32)), (4, .int (1 : Int32)), (0, .ref aG), (1, .int j1), (2, .int j2), (3, .int j3)]) hC dX4_pebbles_26 (by decide) rfl ?_
      refine g_lv (lv' := [(1, .int j1), (2, .int j2), (3, .int j3), (4, .int (1 : Int32)), (5, .int (0 : Int32))]) [3, 4, 5, 1, 0] rfl ?_
      exact t28  fu j1 j2 j3 (1 : Int32) (0 : Int32) hf
    · replace hf := gd_t hc hf
      refine g_bipush (v := (-2 : Int32)) hC dX4_pebbles_19 cb_m2 ?_
      exact hQ ((-2 : Int32)) _ _ (gd_s hf) dX4_pebbles_21
theorem kyX4_tell : yX4_tell.cls = RX4 ∧ yX4_tell.cls ≠ "java/lang/invoke/MethodHandle" ∧ yX4_tell.cls ≠ "java/lang/invoke/VarHandle" ∧ (parseMethodDescriptor yX4_tell.desc).map (fun d => d.parameters.length) = some 2 := by decide +kernel
set_option maxHeartbeats 4000000 in
set_option maxRecDepth 100000 in
theorem cX4_tell_m (l : Launch) (D : va_G) (aG aT aP aW1 aW2 aAC aKE : Nat) (xG_actCount : Int32) (xG_heardMinutes : Int32) (xG_silentMinutes : Int32) (xG_toldCount : Int32) (xG_seedNow : Int64) (j1 : Int32) (j2 : Int32) (z : Int32 × Int32 × Int32 × Int32) (hf : fX4_tell j1 j2 xG_heardMinutes xG_silentMinutes xG_toldCount = some z) : ∀ sz : Nat, Met l yX4_tell wsX4_tell ({ frames := 1, cells := 0, slots := 0, locals := 22 } : Room) (kPre D [] [oO aG 3 [.ref aT, .ref aP, .ref aW1, .ref aW2, .ref aAC, .int xG_actCount, .ref aKE, .int xG_heardMinutes, .int xG_silentMinutes, .int xG_toldCount, .long xG_seedNow]] sz [.ref aG, .int j1, .int j2]) (kQi D [] [oO aG 3 [.ref aT, .ref aP, .ref aW1, .ref aW2, .ref aAC, .int xG_actCount, .ref aKE, .int xG_heardMinutes, .int xG_silentMinutes, .int xG_toldCount, .long xG_seedNow]] sz [oO aG 3 [.ref aT, .ref aP, .ref aW1, .ref aW2, .ref aAC, .int xG_actCount, .ref aKE, .int z.2.1, .int z.2.2.1, .int z.2.2.2, .long xG_seedNow]] z.1) 0 0 (va_A [oO aG 3 [.ref aT, .ref aP, .ref aW1, .ref aW2, .ref aAC, .int xG_actCount, .ref aKE, .int xG_heardMinutes, .int xG_silentMinutes, .int xG_toldCount, .long xG_seedNow]] sz) := by
  refine kMet_i (own := RX4) z (fun u => u.1) (fun u => [oO aG 3 [.ref aT, .ref aP, .ref aW1, .ref aW2, .ref aAC, .int xG_actCount, .ref aKE, .int u.2.1, .int u.2.2.1, .int u.2.2.2, .long xG_seedNow]]) rfl (by decide) rfl ⟨rfl, rfl⟩ (Nat.le_of_ble_eq_true rfl) ?_
  intro X hXl hXD hC hQ
  subst hXl
  subst hXD
  change kG X 0 [(0, .ref aG), (1, .int j1), (2, .int j2)] [] [oO aG 3 [.ref aT, .ref aP, .ref aW1, .ref aW2, .ref aAC, .int xG_actCount, .ref aKE, .int xG_heardMinutes, .int xG_silentMinutes, .int xG_toldCount, .long xG_seedNow]]
  have hinX4 : ∀ w ∈ wsX40, w ∈ wsX4_tell := fun _ h => List.mem_cons_of_mem _ (List.mem_append_right _ h)
  have t56 : ∀  (xG_heardMinutes : Int32) (xG_silentMinutes : Int32) (xG_toldCount : Int32), fX4_tell_b56  xG_heardMinutes xG_silentMinutes xG_toldCount = some z → kG X 56 [(0, .ref aG)] [] [oO aG 3 [.ref aT, .ref aP, .ref aW1, .ref aW2, .ref aAC, .int xG_actCount, .ref aKE, .int xG_heardMinutes, .int xG_silentMinutes, .int xG_toldCount, .long xG_seedNow]] := by
    intro xG_heardMinutes xG_silentMinutes xG_toldCount hf
    unfold fX4_tell_b56 at hf
    refine g_aload_n hC 0 dX4_tell_56 rfl rfl ?_
    refine g_dup hC dX4_tell_57 rfl ?_
    refine g_get (C := RX4) (T := TX4) (N := 11) (v := .int xG_toldCount) hC hinX4 0 9 rfl rfl (by decide) (List.mem_of_getElem? (i := 1) rfl) rfl dX4_tell_58 ?_
    refine g_iconst (v := (1 : Int32)) hC dX4_tell_61 ci_1 ?_
    refine g_iadd hC dX4_tell_62 ?_
    refine g_put (C := RX4) (T := TX4) (N := 11) (ty := .int) (ws' := [oO aG 3 [.ref aT, .ref aP, .ref aW1, .ref aW2, .ref aAC, .int xG_actCount, .ref aKE, .int xG_heardMinutes, .int xG_silentMinutes, .int (xG_toldCount + (1 : Int32)), .long xG_seedNow]]) hC tyX4_ok nmX4 hinX4 0 9 rfl rfl (by decide) (List.mem_of_getElem? (i := 1) rfl) rfl rfl rfl rfl (Nat.le_of_ble_eq_true rfl) dX4_tell_63 rfl ?_
    refine g_aload_n hC 0 dX4_tell_66 rfl rfl ?_
    refine g_get (C := RX4) (T := TX4) (N := 11) (v := .int (xG_toldCount + (1 : Int32))) hC hinX4 0 9 rfl rfl (by decide) (List.mem_of_getElem? (i := 1) rfl) rfl dX4_tell_67 ?_
    exact hQ ((xG_toldCount + (1 : Int32)), xG_heardMinutes, xG_silentMinutes, (xG_toldCount + (1 : Int32))) _ _ (gd_s hf) dX4_tell_70
  unfold fX4_tell at hf
  refine g_iload_n hC 1 dX4_tell_0 rfl rfl ?_
  refine g_iconst (v := (0 : Int32)) hC dX4_tell_1 ci_0 ?_
  refine g_bipush (v := (8 : Int32)) hC dX4_tell_2 cb_8 ?_
  obtain ⟨z4, hz4, hf⟩ := gd_b hf
  refine g_callSi (wr := [oO aG 3 [.ref aT, .ref aP, .ref aW1, .ref aW2, .ref aAC, .int xG_actCount, .ref aKE, .int xG_heardMinutes, .int xG_silentMinutes, .int xG_toldCount, .long xG_seedNow]]) (wn := [oO aG 3 [.ref aT, .ref aP, .ref aW1, .ref aW2, .ref aAC, .int xG_actCount, .ref aKE, .int xG_heardMinutes, .int xG_silentMinutes, .int xG_toldCount, .long xG_seedNow]]) hC [.int j1, .int (0 : Int32), .int (8 : Int32)] (cX4_within_m (kl X) (kD X) j1 (0 : Int32) (8 : Int32) z4 hz4) gX4_tell_X4_within rfl kyX4_within rfl [] [0] [] [0] rfl rfl rfl rfl (by decide) rfl rfl rfl ⟨rfl, rfl⟩ ⟨Nat.le_of_ble_eq_true rfl, Nat.le_of_ble_eq_true rfl⟩ (Nat.le_of_ble_eq_true rfl) rfl dX4_tell_4 ?_
  refine g_if_ne (tgt := 13) hC dX4_tell_7 (by decide) (fun hc => ?_) (fun hc => ?_)
  · replace hf := gd_f hc hf
    refine g_aload_n hC 0 dX4_tell_13 rfl rfl ?_
    refine g_get (C := RX4) (T := TX4) (N := 11) (v := .int xG_toldCount) hC hinX4 0 9 rfl rfl (by decide) (List.mem_of_getElem? (i := 1) rfl) rfl dX4_tell_14 ?_
    refine g_bipush (v := (6 : Int32)) hC dX4_tell_17 cb_6 ?_
    refine g_icmp_lt (tgt := 25) hC dX4_tell_19 (by decide) (fun hc => ?_) (fun hc => ?_)
    · replace hf := gd_t hc hf
      refine g_iload_n hC 2 dX4_tell_25 rfl rfl ?_
      refine g_if_eq (tgt := 44) hC dX4_tell_26 (by decide) (fun hc => ?_) (fun hc => ?_)
      · replace hf := gd_t hc hf
        refine g_aload_n hC 0 dX4_tell_44 rfl rfl ?_
        refine g_dup hC dX4_tell_45 rfl ?_
        refine g_get (C := RX4) (T := TX4) (N := 11) (v := .int xG_silentMinutes) hC hinX4 0 8 rfl rfl (by decide) (List.mem_of_getElem? (i := 3) rfl) rfl dX4_tell_46 ?_
        refine g_iconst (v := (1 : Int32)) hC dX4_tell_49 ci_1 ?_
        refine g_iload_n hC 1 dX4_tell_50 rfl rfl ?_
        refine g_ishl hC dX4_tell_51 ?_
        refine g_ior hC dX4_tell_52 ?_
        refine g_put (C := RX4) (T := TX4) (N := 11) (ty := .int) (ws' := [oO aG 3 [.ref aT, .ref aP, .ref aW1, .ref aW2, .ref aAC, .int xG_actCount, .ref aKE, .int xG_heardMinutes, .int (xG_silentMinutes ||| ((1 : Int32) <<< (j1 &&& 31))), .int xG_toldCount, .long xG_seedNow]]) hC tyX4_ok nmX4 hinX4 0 8 rfl rfl (by decide) (List.mem_of_getElem? (i := 3) rfl) rfl rfl rfl rfl (Nat.le_of_ble_eq_true rfl) dX4_tell_53 rfl ?_
        refine g_lv (lv' := [(0, .ref aG)]) [0] rfl ?_
        exact t56  xG_heardMinutes (xG_silentMinutes ||| ((1 : Int32) <<< (j1 &&& 31))) xG_toldCount hf
      · replace hf := gd_f hc hf
        refine g_aload_n hC 0 dX4_tell_29 rfl rfl ?_
        refine g_dup hC dX4_tell_30 rfl ?_
        refine g_get (C := RX4) (T := TX4) (N := 11) (v := .int xG_heardMinutes) hC hinX4 0 7 rfl rfl (by decide) (List.mem_of_getElem? (i := 2) rfl) rfl dX4_tell_31 ?_
        refine g_iconst (v := (1 : Int32)) hC dX4_tell_34 ci_1 ?_
        refine g_iload_n hC 1 dX4_tell_35 rfl rfl ?_
        refine g_ishl hC dX4_tell_36 ?_
        refine g_ior hC dX4_tell_37 ?_
        refine g_put (C := RX4) (T := TX4) (N := 11) (ty := .int) (ws' := [oO aG 3 [.ref aT, .ref aP, .ref aW1, .ref aW2, .ref aAC, .int xG_actCount, .ref aKE, .int (xG_heardMinutes ||| ((1 : Int32) <<< (j1 &&& 31))), .int xG_silentMinutes, .int xG_toldCount, .long xG_seedNow]]) hC tyX4_ok nmX4 hinX4 0 7 rfl rfl (by decide) (List.mem_of_getElem? (i := 2) rfl) rfl rfl rfl rfl (Nat.le_of_ble_eq_true rfl) dX4_tell_38 rfl ?_
        refine g_goto (tgt := 56) hC dX4_tell_41 (by decide) ?_
        refine g_lv (lv' := [(0, .ref aG)]) [0] rfl ?_
        exact t56  (xG_heardMinutes ||| ((1 : Int32) <<< (j1 &&& 31))) xG_silentMinutes xG_toldCount hf
    · replace hf := gd_f hc hf
      refine g_bipush (v := (-4 : Int32)) hC dX4_tell_22 cb_m4 ?_
      exact hQ ((-4 : Int32), xG_heardMinutes, xG_silentMinutes, xG_toldCount) _ _ (gd_s hf) dX4_tell_24
  · replace hf := gd_t hc hf
    refine g_bipush (v := (-2 : Int32)) hC dX4_tell_10 cb_m2 ?_
    exact hQ ((-2 : Int32), xG_heardMinutes, xG_silentMinutes, xG_toldCount) _ _ (gd_s hf) dX4_tell_12
theorem kyX4_untell : yX4_untell.cls = RX4 ∧ yX4_untell.cls ≠ "java/lang/invoke/MethodHandle" ∧ yX4_untell.cls ≠ "java/lang/invoke/VarHandle" ∧ (parseMethodDescriptor yX4_untell.desc).map (fun d => d.parameters.length) = some 0 := by decide +kernel
set_option maxHeartbeats 4000000 in
set_option maxRecDepth 100000 in
theorem cX4_untell_m (l : Launch) (D : va_G) (aG aT aP aW1 aW2 aAC aKE : Nat) (xG_actCount : Int32) (xG_heardMinutes : Int32) (xG_silentMinutes : Int32) (xG_toldCount : Int32) (xG_seedNow : Int64)  (z : Int32 × Int32 × Int32 × Int32) (hf : fX4_untell xG_heardMinutes xG_silentMinutes xG_toldCount = some z) : ∀ sz : Nat, Met l yX4_untell wsX4_untell ({ frames := 0, cells := 0, slots := 0, locals := 0 } : Room) (kPre D [] [oO aG 3 [.ref aT, .ref aP, .ref aW1, .ref aW2, .ref aAC, .int xG_actCount, .ref aKE, .int xG_heardMinutes, .int xG_silentMinutes, .int xG_toldCount, .long xG_seedNow]] sz [.ref aG]) (kQi D [] [oO aG 3 [.ref aT, .ref aP, .ref aW1, .ref aW2, .ref aAC, .int xG_actCount, .ref aKE, .int xG_heardMinutes, .int xG_silentMinutes, .int xG_toldCount, .long xG_seedNow]] sz [oO aG 3 [.ref aT, .ref aP, .ref aW1, .ref aW2, .ref aAC, .int xG_actCount, .ref aKE, .int z.2.1, .int z.2.2.1, .int z.2.2.2, .long xG_seedNow]] z.1) 0 0 (va_A [oO aG 3 [.ref aT, .ref aP, .ref aW1, .ref aW2, .ref aAC, .int xG_actCount, .ref aKE, .int xG_heardMinutes, .int xG_silentMinutes, .int xG_toldCount, .long xG_seedNow]] sz) := by
  refine kMet_i (own := RX4) z (fun u => u.1) (fun u => [oO aG 3 [.ref aT, .ref aP, .ref aW1, .ref aW2, .ref aAC, .int xG_actCount, .ref aKE, .int u.2.1, .int u.2.2.1, .int u.2.2.2, .long xG_seedNow]]) rfl (by decide) rfl ⟨rfl, rfl⟩ (Nat.le_of_ble_eq_true rfl) ?_
  intro X hXl hXD hC hQ
  subst hXl
  subst hXD
  change kG X 0 [(0, .ref aG)] [] [oO aG 3 [.ref aT, .ref aP, .ref aW1, .ref aW2, .ref aAC, .int xG_actCount, .ref aKE, .int xG_heardMinutes, .int xG_silentMinutes, .int xG_toldCount, .long xG_seedNow]]
  have hinX4 : ∀ w ∈ wsX40, w ∈ wsX4_untell := fun _ h => List.mem_cons_of_mem _ (List.mem_append_right _ h)
  unfold fX4_untell at hf
  refine g_aload_n hC 0 dX4_untell_0 rfl rfl ?_
  refine g_get (C := RX4) (T := TX4) (N := 11) (v := .int xG_toldCount) hC hinX4 0 9 rfl rfl (by decide) (List.mem_of_getElem? (i := 1) rfl) rfl dX4_untell_1 ?_
  refine g_istore_n (lv' := [(1, .int xG_toldCount), (0, .ref aG)]) hC dX4_untell_4 rfl (by decide) rfl ?_
  refine g_aload_n hC 1 dX4_untell_5 rfl rfl ?_
  refine g_iconst (v := (0 : Int32)) hC dX4_untell_6 ci_0 ?_
  refine g_put (C := RX4) (T := TX4) (N := 11) (ty := .int) (ws' := [oO aG 3 [.ref aT, .ref aP, .ref aW1, .ref aW2, .ref aAC, .int xG_actCount, .ref aKE, .int (0 : Int32), .int xG_silentMinutes, .int xG_toldCount, .long xG_seedNow]]) hC tyX4_ok nmX4 hinX4 0 7 rfl rfl (by decide) (List.mem_of_getElem? (i := 2) rfl) rfl rfl rfl rfl (Nat.le_of_ble_eq_true rfl) dX4_untell_7 rfl ?_
  refine g_aload_n hC 1 dX4_untell_10 rfl rfl ?_
  refine g_iconst (v := (0 : Int32)) hC dX4_untell_11 ci_0 ?_
  refine g_put (C := RX4) (T := TX4) (N := 11) (ty := .int) (ws' := [oO aG 3 [.ref aT, .ref aP, .ref aW1, .ref aW2, .ref aAC, .int xG_actCount, .ref aKE, .int (0 : Int32), .int (0 : Int32), .int xG_toldCount, .long xG_seedNow]]) hC tyX4_ok nmX4 hinX4 0 8 rfl rfl (by decide) (List.mem_of_getElem? (i := 3) rfl) rfl rfl rfl rfl (Nat.le_of_ble_eq_true rfl) dX4_untell_12 rfl ?_
  refine g_aload_n hC 1 dX4_untell_15 rfl rfl ?_
  refine g_iconst (v := (0 : Int32)) hC dX4_untell_16 ci_0 ?_
  refine g_put (C := RX4) (T := TX4) (N := 11) (ty := .int) (ws' := [oO aG 3 [.ref aT, .ref aP, .ref aW1, .ref aW2, .ref aAC, .int xG_actCount, .ref aKE, .int (0 : Int32), .int (0 : Int32), .int (0 : Int32), .long xG_seedNow]]) hC tyX4_ok nmX4 hinX4 0 9 rfl rfl (by decide) (List.mem_of_getElem? (i := 1) rfl) rfl rfl rfl rfl (Nat.le_of_ble_eq_true rfl) dX4_untell_17 rfl ?_
  refine g_iload_n hC 0 dX4_untell_20 rfl rfl ?_
  exact hQ (xG_toldCount, (0 : Int32), (0 : Int32), (0 : Int32)) _ _ (gd_s hf) dX4_untell_21
theorem kyX4_letGo : yX4_letGo.cls = RX4 ∧ yX4_letGo.cls ≠ "java/lang/invoke/MethodHandle" ∧ yX4_letGo.cls ≠ "java/lang/invoke/VarHandle" ∧ (parseMethodDescriptor yX4_letGo.desc).map (fun d => d.parameters.length) = some 1 := by decide +kernel
set_option maxHeartbeats 4000000 in
set_option maxRecDepth 100000 in
theorem cX4_letGo_m (l : Launch) (D : va_G) (aG aT aP aW1 aW2 aAC aKE : Nat) (xG_actCount : Int32) (xG_heardMinutes : Int32) (xG_silentMinutes : Int32) (xG_toldCount : Int32) (xG_seedNow : Int64) (j1 : Int32) (z : Int32) (hf : fX4_letGo j1 xG_heardMinutes xG_silentMinutes = some z) : ∀ sz : Nat, Met l yX4_letGo wsX4_letGo ({ frames := 0, cells := 0, slots := 0, locals := 0 } : Room) (kPre D [] [oO aG 3 [.ref aT, .ref aP, .ref aW1, .ref aW2, .ref aAC, .int xG_actCount, .ref aKE, .int xG_heardMinutes, .int xG_silentMinutes, .int xG_toldCount, .long xG_seedNow]] sz [.ref aG, .int j1]) (kQi D [] [oO aG 3 [.ref aT, .ref aP, .ref aW1, .ref aW2, .ref aAC, .int xG_actCount, .ref aKE, .int xG_heardMinutes, .int xG_silentMinutes, .int xG_toldCount, .long xG_seedNow]] sz [oO aG 3 [.ref aT, .ref aP, .ref aW1, .ref aW2, .ref aAC, .int xG_actCount, .ref aKE, .int xG_heardMinutes, .int xG_silentMinutes, .int xG_toldCount, .long xG_seedNow]] z) 0 0 (va_A [oO aG 3 [.ref aT, .ref aP, .ref aW1, .ref aW2, .ref aAC, .int xG_actCount, .ref aKE, .int xG_heardMinutes, .int xG_silentMinutes, .int xG_toldCount, .long xG_seedNow]] sz) := by
  refine kMet_i (own := RX4) z (fun u => u) (fun u => [oO aG 3 [.ref aT, .ref aP, .ref aW1, .ref aW2, .ref aAC, .int xG_actCount, .ref aKE, .int xG_heardMinutes, .int xG_silentMinutes, .int xG_toldCount, .long xG_seedNow]]) rfl (by decide) rfl ⟨rfl, rfl⟩ (Nat.le_of_ble_eq_true rfl) ?_
  intro X hXl hXD hC hQ
  subst hXl
  subst hXD
  change kG X 0 [(0, .ref aG), (1, .int j1)] [] [oO aG 3 [.ref aT, .ref aP, .ref aW1, .ref aW2, .ref aAC, .int xG_actCount, .ref aKE, .int xG_heardMinutes, .int xG_silentMinutes, .int xG_toldCount, .long xG_seedNow]]
  have hinX4 : ∀ w ∈ wsX40, w ∈ wsX4_letGo := fun _ h => List.mem_cons_of_mem _ (List.mem_append_right _ h)
  have t73 : ∀ (k4 : Int32 → Int32 → Int32 → Option (Int32)) (hk4 : ∀ (j1 : Int32) (j2 : Int32) (j3 : Int32), k4 j1 j2 j3 = some z → kG X 4 [(0, .ref aG), (1, .int j1), (2, .int j2), (3, .int j3)] [] [oO aG 3 [.ref aT, .ref aP, .ref aW1, .ref aW2, .ref aAC, .int xG_actCount, .ref aKE, .int xG_heardMinutes, .int xG_silentMinutes, .int xG_toldCount, .long xG_seedNow]]) (j1 : Int32) (j2 : Int32) (j3 : Int32), fX4_letGo_b73 xG_heardMinutes xG_silentMinutes k4 j1 j2 j3 = some z → kG X 73 [(0, .ref aG), (1, .int j1), (2, .int j2), (3, .int j3)] [] [oO aG 3 [.ref aT, .ref aP, .ref aW1, .ref aW2, .ref aAC, .int xG_actCount, .ref aKE, .int xG_heardMinutes, .int xG_silentMinutes, .int xG_toldCount, .long xG_seedNow]] := by
    intro k4 hk4 j1 j2 j3 hf
    unfold fX4_letGo_b73 at hf
    refine g_iinc (v := (j3 + (1 : Int32))) (lv' := [(3, .int (j3 + (1 : Int32))), (0, .ref aG), (1, .int j1), (2, .int j2)]) hC 3 dX4_letGo_73 rfl (ii _ ci_1) (by decide) rfl ?_
    refine g_goto (tgt := 4) hC dX4_letGo_76 (by decide) ?_
    refine g_lv (lv' := [(0, .ref aG), (1, .int j1), (2, .int j2), (3, .int (j3 + (1 : Int32)))]) [1, 2, 3, 0] rfl ?_
    exact hk4 j1 j2 (j3 + (1 : Int32)) hf
  have t55 : ∀ (k4 : Int32 → Int32 → Int32 → Option (Int32)) (hk4 : ∀ (j1 : Int32) (j2 : Int32) (j3 : Int32), k4 j1 j2 j3 = some z → kG X 4 [(0, .ref aG), (1, .int j1), (2, .int j2), (3, .int j3)] [] [oO aG 3 [.ref aT, .ref aP, .ref aW1, .ref aW2, .ref aAC, .int xG_actCount, .ref aKE, .int xG_heardMinutes, .int xG_silentMinutes, .int xG_toldCount, .long xG_seedNow]]) (j1 : Int32) (j2 : Int32) (j3 : Int32) (j5 : Int32) (y0 : Int32), fX4_letGo_b55 xG_heardMinutes xG_silentMinutes k4 j1 j2 j3 j5 y0 = some z → kG X 55 [(0, .ref aG), (1, .int j1), (2, .int j2), (3, .int j3), (5, .int j5)] [.int y0] [oO aG 3 [.ref aT, .ref aP, .ref aW1, .ref aW2, .ref aAC, .int xG_actCount, .ref aKE, .int xG_heardMinutes, .int xG_silentMinutes, .int xG_toldCount, .long xG_seedNow]] := by
    intro k4 hk4 j1 j2 j3 j5 y0 hf
    unfold fX4_letGo_b55 at hf
    refine g_istore (lv' := [(6, .int y0), (0, .ref aG), (1, .int j1), (2, .int j2), (3, .int j3), (5, .int j5)]) hC dX4_letGo_55 (by decide) rfl ?_
    refine g_iload hC 5 dX4_letGo_57 rfl ?_
    refine g_if_eq (tgt := 73) hC dX4_letGo_59 (by decide) (fun hc => ?_) (fun hc => ?_)
    · replace hf := gd_t hc hf
      refine g_lv (lv' := [(0, .ref aG), (1, .int j1), (2, .int j2), (3, .int j3)]) [1, 2, 3, 4] rfl ?_
      exact t73 k4 hk4 j1 j2 j3 hf
    · replace hf := gd_f hc hf
      refine g_iload hC 0 dX4_letGo_62 rfl ?_
      refine g_if_eq (tgt := 73) hC dX4_letGo_64 (by decide) (fun hc => ?_) (fun hc => ?_)
      · replace hf := gd_t hc hf
        refine g_lv (lv' := [(0, .ref aG), (1, .int j1), (2, .int j2), (3, .int j3)]) [1, 2, 3, 4] rfl ?_
        exact t73 k4 hk4 j1 j2 j3 hf
      · replace hf := gd_f hc hf
        refine g_iload_n hC 3 dX4_letGo_67 rfl rfl ?_
        refine g_iconst (v := (1 : Int32)) hC dX4_letGo_68 ci_1 ?_
        refine g_iload_n hC 4 dX4_letGo_69 rfl rfl ?_
        refine g_ishl hC dX4_letGo_70 ?_
        refine g_ior hC dX4_letGo_71 ?_
        refine g_istore_n (lv' := [(2, .int (j2 ||| ((1 : Int32) <<< (j3 &&& 31)))), (6, .int y0), (0, .ref aG), (1, .int j1), (3, .int j3), (5, .int j5)]) hC dX4_letGo_72 rfl (by decide) rfl ?_
        refine g_lv (lv' := [(0, .ref aG), (1, .int j1), (2, .int (j2 ||| ((1 : Int32) <<< (j3 &&& 31)))), (3, .int j3)]) [2, 3, 0, 4] rfl ?_
        exact t73 k4 hk4 j1 (j2 ||| ((1 : Int32) <<< (j3 &&& 31))) j3 hf
  have t50 : ∀ (k4 : Int32 → Int32 → Int32 → Option (Int32)) (hk4 : ∀ (j1 : Int32) (j2 : Int32) (j3 : Int32), k4 j1 j2 j3 = some z → kG X 4 [(0, .ref aG), (1, .int j1), (2, .int j2), (3, .int j3)] [] [oO aG 3 [.ref aT, .ref aP, .ref aW1, .ref aW2, .ref aAC, .int xG_actCount, .ref aKE, .int xG_heardMinutes, .int xG_silentMinutes, .int xG_toldCount, .long xG_seedNow]]) (j1 : Int32) (j2 : Int32) (j3 : Int32) (j5 : Int32), fX4_letGo_b50 xG_heardMinutes xG_silentMinutes k4 j1 j2 j3 j5 = some z → kG X 50 [(0, .ref aG), (1, .int j1), (2, .int j2), (3, .int j3), (5, .int j5)] [] [oO aG 3 [.ref aT, .ref aP, .ref aW1, .ref aW2, .ref aAC, .int xG_actCount, .ref aKE, .int xG_heardMinutes, .int xG_silentMinutes, .int xG_toldCount, .long xG_seedNow]] := by
    intro k4 hk4 j1 j2 j3 j5 hf
    unfold fX4_letGo_b50 at hf
    refine g_iconst (v := (1 : Int32)) hC dX4_letGo_50 ci_1 ?_
    refine g_goto (tgt := 55) hC dX4_letGo_51 (by decide) ?_
    exact t55 k4 hk4 j1 j2 j3 j5 (1 : Int32) hf
  have t34 : ∀ (k4 : Int32 → Int32 → Int32 → Option (Int32)) (hk4 : ∀ (j1 : Int32) (j2 : Int32) (j3 : Int32), k4 j1 j2 j3 = some z → kG X 4 [(0, .ref aG), (1, .int j1), (2, .int j2), (3, .int j3)] [] [oO aG 3 [.ref aT, .ref aP, .ref aW1, .ref aW2, .ref aAC, .int xG_actCount, .ref aKE, .int xG_heardMinutes, .int xG_silentMinutes, .int xG_toldCount, .long xG_seedNow]]) (j1 : Int32) (j2 : Int32) (j3 : Int32) (j4 : Int32) (y0 : Int32), fX4_letGo_b34 xG_heardMinutes xG_silentMinutes k4 j1 j2 j3 j4 y0 = some z → kG X 34 [(0, .ref aG), (1, .int j1), (2, .int j2), (3, .int j3), (4, .int j4)] [.int y0] [oO aG 3 [.ref aT, .ref aP, .ref aW1, .ref aW2, .ref aAC, .int xG_actCount, .ref aKE, .int xG_heardMinutes, .int xG_silentMinutes, .int xG_toldCount, .long xG_seedNow]] := by
    intro k4 hk4 j1 j2 j3 j4 y0 hf
    unfold fX4_letGo_b34 at hf
    refine g_istore (lv' := [(5, .int y0), (0, .ref aG), (1, .int j1), (2, .int j2), (3, .int j3), (4, .int j4)]) hC dX4_letGo_34 (by decide) rfl ?_
    refine g_iload_n hC 2 dX4_letGo_36 rfl rfl ?_
    refine g_if_eq (tgt := 50) hC dX4_letGo_37 (by decide) (fun hc => ?_) (fun hc => ?_)
    · replace hf := gd_t hc hf
      refine g_lv (lv' := [(0, .ref aG), (1, .int j1), (2, .int j2), (3, .int j3), (5, .int y0)]) [1, 2, 3, 4, 0] rfl ?_
      exact t50 k4 hk4 j1 j2 j3 y0 hf
    · replace hf := gd_f hc hf
      refine g_aload_n hC 1 dX4_letGo_40 rfl rfl ?_
      refine g_get (C := RX4) (T := TX4) (N := 11) (v := .int xG_silentMinutes) hC hinX4 0 8 rfl rfl (by decide) (List.mem_of_getElem? (i := 2) rfl) rfl dX4_letGo_41 ?_
      refine g_iload hC 5 dX4_letGo_44 rfl ?_
      refine g_iand hC dX4_letGo_46 ?_
      refine g_if_ne (tgt := 54) hC dX4_letGo_47 (by decide) (fun hc => ?_) (fun hc => ?_)
      · replace hf := gd_f hc hf
        refine g_iconst (v := (0 : Int32)) hC dX4_letGo_54 ci_0 ?_
        refine g_lv (lv' := [(0, .ref aG), (1, .int j1), (2, .int j2), (3, .int j3), (5, .int y0)]) [1, 2, 3, 4, 0] rfl ?_
        exact t55 k4 hk4 j1 j2 j3 y0 (0 : Int32) hf
      · replace hf := gd_t hc hf
        refine g_lv (lv' := [(0, .ref aG), (1, .int j1), (2, .int j2), (3, .int j3), (5, .int y0)]) [1, 2, 3, 4, 0] rfl ?_
        exact t50 k4 hk4 j1 j2 j3 y0 hf
  have t4 : ∀  (n : Nat) (j1 : Int32) (j2 : Int32) (j3 : Int32), lp (fun _ _ _ => none) (fX4_letGo_b4_S xG_heardMinutes xG_silentMinutes ) n j1 j2 j3 = some z → kG X 4 [(0, .ref aG), (1, .int j1), (2, .int j2), (3, .int j3)] [] [oO aG 3 [.ref aT, .ref aP, .ref aW1, .ref aW2, .ref aAC, .int xG_actCount, .ref aKE, .int xG_heardMinutes, .int xG_silentMinutes, .int xG_toldCount, .long xG_seedNow]] := by
    intro  n
    induction n with
    | zero => intro j1 j2 j3 hf; cases hf
    | succ n hk4 =>
      intro j1 j2 j3 hf
      rw [lp_s] at hf
      revert hf hk4
      generalize lp (fun _ _ _ => none) (fX4_letGo_b4_S xG_heardMinutes xG_silentMinutes ) n = k4
      intro hk4 hf
      unfold fX4_letGo_b4_S at hf
      refine g_iload_n hC 3 dX4_letGo_4 rfl rfl ?_
      refine g_bipush (v := (9 : Int32)) hC dX4_letGo_5 cb_9 ?_
      refine g_icmp_gt (tgt := 79) hC dX4_letGo_7 (by decide) (fun hc => ?_) (fun hc => ?_)
      · replace hf := gd_t hc hf
        refine g_iload_n hC 2 dX4_letGo_79 rfl rfl ?_
        exact hQ (j2) _ _ (gd_s hf) dX4_letGo_80
      · replace hf := gd_f hc hf
        refine g_iconst (v := (1 : Int32)) hC dX4_letGo_10 ci_1 ?_
        refine g_iload_n hC 3 dX4_letGo_11 rfl rfl ?_
        refine g_ishl hC dX4_letGo_12 ?_
        refine g_iconst (v := (1 : Int32)) hC dX4_letGo_13 ci_1 ?_
        refine g_isub hC dX4_letGo_14 ?_
        refine g_istore (lv' := [(4, .int (((1 : Int32) <<< (j3 &&& 31)) - (1 : Int32))), (0, .ref aG), (1, .int j1), (2, .int j2), (3, .int j3)]) hC dX4_letGo_15 (by decide) rfl ?_
        refine g_aload_n hC 1 dX4_letGo_17 rfl rfl ?_
        refine g_get (C := RX4) (T := TX4) (N := 11) (v := .int xG_heardMinutes) hC hinX4 0 7 rfl rfl (by decide) (List.mem_of_getElem? (i := 1) rfl) rfl dX4_letGo_18 ?_
        refine g_iload hC 0 dX4_letGo_21 rfl ?_
        refine g_iconst (v := (-1 : Int32)) hC dX4_letGo_23 ci_m1 ?_
        refine g_ixor hC dX4_letGo_24 ?_
        refine g_iand hC dX4_letGo_25 ?_
        refine g_if_ne (tgt := 33) hC dX4_letGo_26 (by decide) (fun hc => ?_) (fun hc => ?_)
        · replace hf := gd_f hc hf
          refine g_iconst (v := (0 : Int32)) hC dX4_letGo_33 ci_0 ?_
          refine g_lv (lv' := [(0, .ref aG), (1, .int j1), (2, .int j2), (3, .int j3), (4, .int (((1 : Int32) <<< (j3 &&& 31)) - (1 : Int32)))]) [1, 2, 3, 4, 0] rfl ?_
          exact t34 k4 hk4 j1 j2 j3 (((1 : Int32) <<< (j3 &&& 31)) - (1 : Int32)) (0 : Int32) hf
        · replace hf := gd_t hc hf
          refine g_iconst (v := (1 : Int32)) hC dX4_letGo_29 ci_1 ?_
          refine g_goto (tgt := 34) hC dX4_letGo_30 (by decide) ?_
          refine g_lv (lv' := [(0, .ref aG), (1, .int j1), (2, .int j2), (3, .int j3), (4, .int (((1 : Int32) <<< (j3 &&& 31)) - (1 : Int32)))]) [1, 2, 3, 4, 0] rfl ?_
          exact t34 k4 hk4 j1 j2 j3 (((1 : Int32) <<< (j3 &&& 31)) - (1 : Int32)) (1 : Int32) hf
  unfold fX4_letGo at hf
  refine g_iconst (v := (0 : Int32)) hC dX4_letGo_0 ci_0 ?_
  refine g_istore_n (lv' := [(2, .int (0 : Int32)), (0, .ref aG), (1, .int j1)]) hC dX4_letGo_1 rfl (by decide) rfl ?_
  refine g_iconst (v := (0 : Int32)) hC dX4_letGo_2 ci_0 ?_
  refine g_istore_n (lv' := [(3, .int (0 : Int32)), (2, .int (0 : Int32)), (0, .ref aG), (1, .int j1)]) hC dX4_letGo_3 rfl (by decide) rfl ?_
  refine g_lv (lv' := [(0, .ref aG), (1, .int j1), (2, .int (0 : Int32)), (3, .int (0 : Int32))]) [2, 3, 1, 0] rfl ?_
  exact t4  fu j1 (0 : Int32) (0 : Int32) hf
theorem kyX4_longestSilence : yX4_longestSilence.cls ≠ "java/lang/invoke/MethodHandle" ∧ yX4_longestSilence.cls ≠ "java/lang/invoke/VarHandle" ∧ (parseMethodDescriptor yX4_longestSilence.desc).map (fun d => d.parameters.length) = some 2 := by decide +kernel
set_option maxHeartbeats 4000000 in
set_option maxRecDepth 100000 in
theorem cX4_longestSilence_m (l : Launch) (D : va_G)  (j0 : Int32) (j1 : Int32) (z : Int32) (hf : fX4_longestSilence j0 j1 = some z) : ∀ sz : Nat, Met l yX4_longestSilence wsX4_longestSilence ({ frames := 1, cells := 0, slots := 0, locals := 21 } : Room) (kPre D [] [] sz [.int j0, .int j1]) (kQi D [] [] sz [] z) 0 0 (va_A [] sz) := by
  refine kMet_i (own := RX4) z (fun u => u) (fun u => []) rfl (by decide) rfl ⟨rfl, rfl⟩ (Nat.le_of_ble_eq_true rfl) ?_
  intro X hXl hXD hC hQ
  subst hXl
  subst hXD
  change kG X 0 [(0, .int j0), (1, .int j1)] [] []
  have t30 : ∀ (k7 : Int32 → Int32 → Int32 → Int32 → Int32 → Option (Int32)) (hk7 : ∀ (j0 : Int32) (j1 : Int32) (j2 : Int32) (j3 : Int32) (j4 : Int32), k7 j0 j1 j2 j3 j4 = some z → kG X 7 [(0, .int j0), (1, .int j1), (2, .int j2), (3, .int j3), (4, .int j4)] [] []) (j0 : Int32) (j1 : Int32) (j2 : Int32) (j4 : Int32) (y0 : Int32), fX4_longestSilence_b30 k7 j0 j1 j2 j4 y0 = some z → kG X 30 [(0, .int j0), (1, .int j1), (2, .int j2), (4, .int j4)] [.int y0] [] := by
    intro k7 hk7 j0 j1 j2 j4 y0 hf
    unfold fX4_longestSilence_b30 at hf
    refine g_istore_n (lv' := [(3, .int y0), (0, .int j0), (1, .int j1), (2, .int j2), (4, .int j4)]) hC dX4_longestSilence_30 rfl (by decide) rfl ?_
    refine g_iload_n hC 3 dX4_longestSilence_31 rfl rfl ?_
    refine g_iload_n hC 0 dX4_longestSilence_32 rfl rfl ?_
    refine g_max hC (List.mem_of_getElem? (i := 1) rfl) (List.mem_of_getElem? (i := 2) rfl) (List.mem_of_getElem? (i := 3) rfl) (List.mem_of_getElem? (i := 4) rfl) (Nat.le_of_ble_eq_true rfl) (Nat.le_of_ble_eq_true rfl) dX4_longestSilence_33 ?_
    refine g_istore_n (lv' := [(2, .int (if j2 < y0 then y0 else j2)), (3, .int y0), (0, .int j0), (1, .int j1), (4, .int j4)]) hC dX4_longestSilence_36 rfl (by decide) rfl ?_
    refine g_iinc (v := (j4 + (1 : Int32))) (lv' := [(4, .int (j4 + (1 : Int32))), (2, .int (if j2 < y0 then y0 else j2)), (3, .int y0), (0, .int j0), (1, .int j1)]) hC 4 dX4_longestSilence_37 rfl (ii _ ci_1) (by decide) rfl ?_
    refine g_goto (tgt := 7) hC dX4_longestSilence_40 (by decide) ?_
    refine g_lv (lv' := [(0, .int j0), (1, .int j1), (2, .int (if j2 < y0 then y0 else j2)), (3, .int y0), (4, .int (j4 + (1 : Int32)))]) [3, 4, 1, 2, 0] rfl ?_
    exact hk7 j0 j1 (if j2 < y0 then y0 else j2) y0 (j4 + (1 : Int32)) hf
  have t7 : ∀  (n : Nat) (j0 : Int32) (j1 : Int32) (j2 : Int32) (j3 : Int32) (j4 : Int32), lp (fun _ _ _ _ _ => none) (fX4_longestSilence_b7_S ) n j0 j1 j2 j3 j4 = some z → kG X 7 [(0, .int j0), (1, .int j1), (2, .int j2), (3, .int j3), (4, .int j4)] [] [] := by
    intro  n
    induction n with
    | zero => intro j0 j1 j2 j3 j4 hf; cases hf
    | succ n hk7 =>
      intro j0 j1 j2 j3 j4 hf
      rw [lp_s] at hf
      revert hf hk7
      generalize lp (fun _ _ _ _ _ => none) (fX4_longestSilence_b7_S ) n = k7
      intro hk7 hf
      unfold fX4_longestSilence_b7_S at hf
      refine g_iload hC 4 dX4_longestSilence_7 rfl ?_
      refine g_iload_n hC 1 dX4_longestSilence_9 rfl rfl ?_
      refine g_icmp_ge (tgt := 43) hC dX4_longestSilence_10 (by decide) (fun hc => ?_) (fun hc => ?_)
      · replace hf := gd_t hc hf
        refine g_iload_n hC 2 dX4_longestSilence_43 rfl rfl ?_
        exact hQ (j2) _ _ (gd_s hf) dX4_longestSilence_44
      · replace hf := gd_f hc hf
        refine g_iload_n hC 0 dX4_longestSilence_13 rfl rfl ?_
        refine g_iload hC 4 dX4_longestSilence_14 rfl ?_
        refine g_ishr hC dX4_longestSilence_16 ?_
        refine g_iconst (v := (1 : Int32)) hC dX4_longestSilence_17 ci_1 ?_
        refine g_iand hC dX4_longestSilence_18 ?_
        refine g_iconst (v := (1 : Int32)) hC dX4_longestSilence_19 ci_1 ?_
        refine g_icmp_ne (tgt := 27) hC dX4_longestSilence_20 (by decide) (fun hc => ?_) (fun hc => ?_)
        · replace hf := gd_f hc hf
          refine g_iload_n hC 3 dX4_longestSilence_27 rfl rfl ?_
          refine g_iconst (v := (1 : Int32)) hC dX4_longestSilence_28 ci_1 ?_
          refine g_iadd hC dX4_longestSilence_29 ?_
          refine g_lv (lv' := [(0, .int j0), (1, .int j1), (2, .int j2), (4, .int j4)]) [0, 1, 2, 4] rfl ?_
          exact t30 k7 hk7 j0 j1 j2 j4 (j3 + (1 : Int32)) hf
        · replace hf := gd_t hc hf
          refine g_iconst (v := (0 : Int32)) hC dX4_longestSilence_23 ci_0 ?_
          refine g_goto (tgt := 30) hC dX4_longestSilence_24 (by decide) ?_
          refine g_lv (lv' := [(0, .int j0), (1, .int j1), (2, .int j2), (4, .int j4)]) [0, 1, 2, 4] rfl ?_
          exact t30 k7 hk7 j0 j1 j2 j4 (0 : Int32) hf
  unfold fX4_longestSilence at hf
  refine g_iconst (v := (0 : Int32)) hC dX4_longestSilence_0 ci_0 ?_
  refine g_istore_n (lv' := [(2, .int (0 : Int32)), (0, .int j0), (1, .int j1)]) hC dX4_longestSilence_1 rfl (by decide) rfl ?_
  refine g_iconst (v := (0 : Int32)) hC dX4_longestSilence_2 ci_0 ?_
  refine g_istore_n (lv' := [(3, .int (0 : Int32)), (2, .int (0 : Int32)), (0, .int j0), (1, .int j1)]) hC dX4_longestSilence_3 rfl (by decide) rfl ?_
  refine g_iconst (v := (0 : Int32)) hC dX4_longestSilence_4 ci_0 ?_
  refine g_istore (lv' := [(4, .int (0 : Int32)), (3, .int (0 : Int32)), (2, .int (0 : Int32)), (0, .int j0), (1, .int j1)]) hC dX4_longestSilence_5 (by decide) rfl ?_
  refine g_lv (lv' := [(0, .int j0), (1, .int j1), (2, .int (0 : Int32)), (3, .int (0 : Int32)), (4, .int (0 : Int32))]) [3, 4, 2, 1, 0] rfl ?_
  exact t7  fu j0 j1 (0 : Int32) (0 : Int32) (0 : Int32) hf
theorem kyX4_power : yX4_power.cls ≠ "java/lang/invoke/MethodHandle" ∧ yX4_power.cls ≠ "java/lang/invoke/VarHandle" ∧ (parseMethodDescriptor yX4_power.desc).map (fun d => d.parameters.length) = some 2 := by decide +kernel
set_option maxHeartbeats 4000000 in
set_option maxRecDepth 100000 in
theorem cX4_power_m (l : Launch) (D : va_G)  (j0 : Int32) (j1 : Int32) (z : Int64) (hf : fX4_power j0 j1 = some z) : ∀ sz : Nat, Met l yX4_power wsX4_power ({ frames := 0, cells := 0, slots := 0, locals := 0 } : Room) (kPre D [] [] sz [.int j0, .int j1]) (kQl D [] [] sz [] z) 0 0 (va_A [] sz) := by
  refine kMet_l (own := RX4) z (fun u => u) (fun u => []) rfl (by decide) rfl ⟨rfl, rfl⟩ (Nat.le_of_ble_eq_true rfl) ?_
  intro X hXl hXD hC hQ
  subst hXl
  subst hXD
  change kG X 0 [(0, .int j0), (1, .int j1)] [] []
  have t5 : ∀  (n : Nat) (j0 : Int32) (j1 : Int32) (j2 : Int64) (j4 : Int32), lp (fun _ _ _ _ => none) (fX4_power_b5_S ) n j0 j1 j2 j4 = some z → kG X 5 [(0, .int j0), (1, .int j1), (2, .long j2), (4, .int j4)] [] [] := by
    intro  n
    induction n with
    | zero => intro j0 j1 j2 j4 hf; cases hf
    | succ n hk5 =>
      intro j0 j1 j2 j4 hf
      rw [lp_s] at hf
      revert hf hk5
      generalize lp (fun _ _ _ _ => none) (fX4_power_b5_S ) n = k5
      intro hk5 hf
      unfold fX4_power_b5_S at hf
      refine g_iload hC 3 dX4_power_5 rfl ?_
      refine g_iload_n hC 1 dX4_power_7 rfl rfl ?_
      refine g_icmp_ge (tgt := 22) hC dX4_power_8 (by decide) (fun hc => ?_) (fun hc => ?_)
      · replace hf := gd_t hc hf
        refine g_lload_n hC 2 dX4_power_22 rfl rfl ?_
        exact hQ (j2) _ _ (gd_s hf) dX4_power_23
      · replace hf := gd_f hc hf
        refine g_lload_n hC 2 dX4_power_11 rfl rfl ?_
        refine g_iload_n hC 0 dX4_power_12 rfl rfl ?_
        refine g_i2l hC dX4_power_13 ?_
        refine g_lmul hC dX4_power_14 ?_
        refine g_lstore_n (lv' := [(2, .long (j2 * j0.toInt64)), (0, .int j0), (1, .int j1), (4, .int j4)]) hC dX4_power_15 rfl (by decide) rfl ?_
        refine g_iinc (v := (j4 + (1 : Int32))) (lv' := [(4, .int (j4 + (1 : Int32))), (2, .long (j2 * j0.toInt64)), (0, .int j0), (1, .int j1)]) hC 3 dX4_power_16 rfl (ii _ ci_1) (by decide) rfl ?_
        refine g_goto (tgt := 5) hC dX4_power_19 (by decide) ?_
        refine g_lv (lv' := [(0, .int j0), (1, .int j1), (2, .long (j2 * j0.toInt64)), (4, .int (j4 + (1 : Int32)))]) [2, 3, 1, 0] rfl ?_
        exact hk5 j0 j1 (j2 * j0.toInt64) (j4 + (1 : Int32)) hf
  unfold fX4_power at hf
  refine g_lconst (v := (1 : Int64)) hC dX4_power_0 rfl ?_
  refine g_lstore_n (lv' := [(2, .long (1 : Int64)), (0, .int j0), (1, .int j1)]) hC dX4_power_1 rfl (by decide) rfl ?_
  refine g_iconst (v := (0 : Int32)) hC dX4_power_2 ci_0 ?_
  refine g_istore (lv' := [(4, .int (0 : Int32)), (2, .long (1 : Int64)), (0, .int j0), (1, .int j1)]) hC dX4_power_3 (by decide) rfl ?_
  refine g_lv (lv' := [(0, .int j0), (1, .int j1), (2, .long (1 : Int64)), (4, .int (0 : Int32))]) [2, 3, 1, 0] rfl ?_
  exact t5  fu j0 j1 (1 : Int64) (0 : Int32) hf
theorem kyX4_link : yX4_link.cls = RX4 ∧ yX4_link.cls ≠ "java/lang/invoke/MethodHandle" ∧ yX4_link.cls ≠ "java/lang/invoke/VarHandle" ∧ (parseMethodDescriptor yX4_link.desc).map (fun d => d.parameters.length) = some 4 := by decide +kernel
set_option maxHeartbeats 4000000 in
set_option maxRecDepth 100000 in
theorem cX4_link_m (l : Launch) (D : va_G) (aG aT aP aW1 aW2 aAC aKE : Nat) (xG_actCount : Int32) (xG_heardMinutes : Int32) (xG_silentMinutes : Int32) (xG_toldCount : Int32) (xG_seedNow : Int64) (j1 : Int32) (j2 : Int32) (j3 : Int32) (j4 : Int32) (z : Int32) (hf : fX4_link j1 j2 j3 j4 = some z) : ∀ sz : Nat, Met l yX4_link wsX4_link ({ frames := 2, cells := 0, slots := 0, locals := 56 } : Room) (kPre D [] [oO aG 3 [.ref aT, .ref aP, .ref aW1, .ref aW2, .ref aAC, .int xG_actCount, .ref aKE, .int xG_heardMinutes, .int xG_silentMinutes, .int xG_toldCount, .long xG_seedNow]] sz [.ref aG, .int j1, .int j2, .int j3, .int j4]) (kQi D [] [oO aG 3 [.ref aT, .ref aP, .ref aW1, .ref aW2, .ref aAC, .int xG_actCount, .ref aKE, .int xG_heardMinutes, .int xG_silentMinutes, .int xG_toldCount, .long xG_seedNow]] sz [oO aG 3 [.ref aT, .ref aP, .ref aW1, .ref aW2, .ref aAC, .int xG_actCount, .ref aKE, .int xG_heardMinutes, .int xG_silentMinutes, .int xG_toldCount, .long xG_seedNow]] z) 0 0 (va_A [oO aG 3 [.ref aT, .ref aP, .ref aW1, .ref aW2, .ref aAC, .int xG_actCount, .ref aKE, .int xG_heardMinutes, .int xG_silentMinutes, .int xG_toldCount, .long xG_seedNow]] sz) := by
  refine kMet_i (own := RX4) z (fun u => u) (fun u => [oO aG 3 [.ref aT, .ref aP, .ref aW1, .ref aW2, .ref aAC, .int xG_actCount, .ref aKE, .int xG_heardMinutes, .int xG_silentMinutes, .int xG_toldCount, .long xG_seedNow]]) rfl (by decide) rfl ⟨rfl, rfl⟩ (Nat.le_of_ble_eq_true rfl) ?_
  intro X hXl hXD hC hQ
  subst hXl
  subst hXD
  change kG X 0 [(0, .ref aG), (1, .int j1), (2, .int j2), (3, .int j3), (4, .int j4)] [] [oO aG 3 [.ref aT, .ref aP, .ref aW1, .ref aW2, .ref aAC, .int xG_actCount, .ref aKE, .int xG_heardMinutes, .int xG_silentMinutes, .int xG_toldCount, .long xG_seedNow]]
  have t83 : ∀ (k35 : Int32 → Int32 → Int32 → Int32 → Int64 → Int32 → Option (Int32)) (hk35 : ∀ (j1 : Int32) (j2 : Int32) (j3 : Int32) (j4 : Int32) (j5 : Int64) (j7 : Int32), k35 j1 j2 j3 j4 j5 j7 = some z → kG X 35 [(1, .int j1), (2, .int j2), (3, .int j3), (4, .int j4), (5, .long j5), (7, .int j7)] [] [oO aG 3 [.ref aT, .ref aP, .ref aW1, .ref aW2, .ref aAC, .int xG_actCount, .ref aKE, .int xG_heardMinutes, .int xG_silentMinutes, .int xG_toldCount, .long xG_seedNow]]) (j1 : Int32) (j2 : Int32) (j3 : Int32) (j4 : Int32) (j5 : Int64) (j7 : Int32), fX4_link_b83 k35 j1 j2 j3 j4 j5 j7 = some z → kG X 83 [(1, .int j1), (2, .int j2), (3, .int j3), (4, .int j4), (5, .long j5), (7, .int j7)] [] [oO aG 3 [.ref aT, .ref aP, .ref aW1, .ref aW2, .ref aAC, .int xG_actCount, .ref aKE, .int xG_heardMinutes, .int xG_silentMinutes, .int xG_toldCount, .long xG_seedNow]] := by
    intro k35 hk35 j1 j2 j3 j4 j5 j7 hf
    unfold fX4_link_b83 at hf
    refine g_iinc (v := (j7 + (1 : Int32))) (lv' := [(7, .int (j7 + (1 : Int32))), (1, .int j1), (2, .int j2), (3, .int j3), (4, .int j4), (5, .long j5)]) hC 5 dX4_link_83 rfl (ii _ ci_1) (by decide) rfl ?_
    refine g_goto (tgt := 35) hC dX4_link_86 (by decide) ?_
    refine g_lv (lv' := [(1, .int j1), (2, .int j2), (3, .int j3), (4, .int j4), (5, .long j5), (7, .int (j7 + (1 : Int32)))]) [1, 2, 3, 4, 5, 0] rfl ?_
    exact hk35 j1 j2 j3 j4 j5 (j7 + (1 : Int32)) hf
  have t35 : ∀  (n : Nat) (j1 : Int32) (j2 : Int32) (j3 : Int32) (j4 : Int32) (j5 : Int64) (j7 : Int32), lp (fun _ _ _ _ _ _ => none) (fX4_link_b35_S ) n j1 j2 j3 j4 j5 j7 = some z → kG X 35 [(1, .int j1), (2, .int j2), (3, .int j3), (4, .int j4), (5, .long j5), (7, .int j7)] [] [oO aG 3 [.ref aT, .ref aP, .ref aW1, .ref aW2, .ref aAC, .int xG_actCount, .ref aKE, .int xG_heardMinutes, .int xG_silentMinutes, .int xG_toldCount, .long xG_seedNow]] := by
    intro  n
    induction n with
    | zero => intro j1 j2 j3 j4 j5 j7 hf; cases hf
    | succ n hk35 =>
      intro j1 j2 j3 j4 j5 j7 hf
      rw [lp_s] at hf
      revert hf hk35
      generalize lp (fun _ _ _ _ _ _ => none) (fX4_link_b35_S ) n = k35
      intro hk35 hf
      unfold fX4_link_b35_S at hf
      refine g_iload hC 5 dX4_link_35 rfl ?_
      refine g_iconst (v := (1 : Int32)) hC dX4_link_37 ci_1 ?_
      refine g_iload_n hC 2 dX4_link_38 rfl rfl ?_
      refine g_ishl hC dX4_link_39 ?_
      refine g_icmp_ge (tgt := 89) hC dX4_link_40 (by decide) (fun hc => ?_) (fun hc => ?_)
      · replace hf := gd_t hc hf
        refine g_lload hC 4 dX4_link_89 rfl ?_
        refine g_bipush (v := (10 : Int32)) hC dX4_link_91 cb_10 ?_
        refine g_iload_n hC 2 dX4_link_93 rfl rfl ?_
        obtain ⟨z94, hz94, hf⟩ := gd_b hf
        refine g_callSl (wr := [oO aG 3 [.ref aT, .ref aP, .ref aW1, .ref aW2, .ref aAC, .int xG_actCount, .ref aKE, .int xG_heardMinutes, .int xG_silentMinutes, .int xG_toldCount, .long xG_seedNow]]) (wn := [oO aG 3 [.ref aT, .ref aP, .ref aW1, .ref aW2, .ref aAC, .int xG_actCount, .ref aKE, .int xG_heardMinutes, .int xG_silentMinutes, .int xG_toldCount, .long xG_seedNow]]) hC [.int (10 : Int32), .int j3] (cX4_power_m (kl X) (kD X) (10 : Int32) j3 z94 hz94) gX4_link_X4_power rfl kyX4_power rfl [] [0] [] [0] rfl rfl rfl rfl (by decide) rfl rfl rfl ⟨rfl, rfl⟩ ⟨Nat.le_of_ble_eq_true rfl, Nat.le_of_ble_eq_true rfl⟩ (Nat.le_of_ble_eq_true rfl) rfl dX4_link_94 ?_
        refine g_iload hC 3 dX4_link_97 rfl ?_
        obtain ⟨z99, hz99, hf⟩ := gd_b hf
        refine g_callSi (wr := [oO aG 3 [.ref aT, .ref aP, .ref aW1, .ref aW2, .ref aAC, .int xG_actCount, .ref aKE, .int xG_heardMinutes, .int xG_silentMinutes, .int xG_toldCount, .long xG_seedNow]]) (wn := [oO aG 3 [.ref aT, .ref aP, .ref aW1, .ref aW2, .ref aAC, .int xG_actCount, .ref aKE, .int xG_heardMinutes, .int xG_silentMinutes, .int xG_toldCount, .long xG_seedNow]]) hC [.long j5, .long z94, .int j4] (cX4_fraction_m (kl X) (kD X) j5 z94 j4 z99 hz99) gX4_link_X4_fraction rfl kyX4_fraction rfl [] [0] [] [0] rfl rfl rfl rfl (by decide) rfl rfl rfl ⟨rfl, rfl⟩ ⟨Nat.le_of_ble_eq_true rfl, Nat.le_of_ble_eq_true rfl⟩ (Nat.le_of_ble_eq_true rfl) rfl dX4_link_99 ?_
        exact hQ (z99) _ _ (gd_s hf) dX4_link_102
      · replace hf := gd_f hc hf
        refine g_iload hC 5 dX4_link_43 rfl ?_
        refine g_iload_n hC 2 dX4_link_45 rfl rfl ?_
        obtain ⟨z46, hz46, hf⟩ := gd_b hf
        refine g_callSi (wr := [oO aG 3 [.ref aT, .ref aP, .ref aW1, .ref aW2, .ref aAC, .int xG_actCount, .ref aKE, .int xG_heardMinutes, .int xG_silentMinutes, .int xG_toldCount, .long xG_seedNow]]) (wn := [oO aG 3 [.ref aT, .ref aP, .ref aW1, .ref aW2, .ref aAC, .int xG_actCount, .ref aKE, .int xG_heardMinutes, .int xG_silentMinutes, .int xG_toldCount, .long xG_seedNow]]) hC [.int j7, .int j3] (cX4_longestSilence_m (kl X) (kD X) j7 j3 z46 hz46) gX4_link_X4_longestSilence rfl kyX4_longestSilence rfl [] [0] [] [0] rfl rfl rfl rfl (by decide) rfl rfl rfl ⟨rfl, rfl⟩ ⟨Nat.le_of_ble_eq_true rfl, Nat.le_of_ble_eq_true rfl⟩ (Nat.le_of_ble_eq_true rfl) rfl dX4_link_46 ?_
        refine g_iload_n hC 0 dX4_link_49 rfl rfl ?_
        refine g_icmp_gt (tgt := 83) hC dX4_link_50 (by decide) (fun hc => ?_) (fun hc => ?_)
        · replace hf := gd_t hc hf
          exact t83 k35 hk35 j1 j2 j3 j4 j5 j7 hf
        · replace hf := gd_f hc hf
          refine g_iload hC 5 dX4_link_53 rfl ?_
          obtain ⟨z55, hz55, hf⟩ := gd_b hf
          refine g_callSi (wr := [oO aG 3 [.ref aT, .ref aP, .ref aW1, .ref aW2, .ref aAC, .int xG_actCount, .ref aKE, .int xG_heardMinutes, .int xG_silentMinutes, .int xG_toldCount, .long xG_seedNow]]) (wn := [oO aG 3 [.ref aT, .ref aP, .ref aW1, .ref aW2, .ref aAC, .int xG_actCount, .ref aKE, .int xG_heardMinutes, .int xG_silentMinutes, .int xG_toldCount, .long xG_seedNow]]) hC [.int j7] (cJ6_bitCount_0f7a4_m (kl X) (kD X) j7 z55 hz55) gX4_link_J6_bitCount_0f7a4 rfl kyJ6_bitCount_0f7a4 rfl [] [0] [] [0] rfl rfl rfl rfl (by decide) rfl rfl rfl ⟨rfl, rfl⟩ ⟨Nat.le_of_ble_eq_true rfl, Nat.le_of_ble_eq_true rfl⟩ (Nat.le_of_ble_eq_true rfl) rfl dX4_link_55 ?_
          refine g_istore (lv' := [(8, .int z55), (1, .int j1), (2, .int j2), (3, .int j3), (4, .int j4), (5, .long j5), (7, .int j7)]) hC dX4_link_58 (by decide) rfl ?_
          refine g_lload hC 5 dX4_link_60 rfl ?_
          refine g_iload_n hC 2 dX4_link_62 rfl rfl ?_
          refine g_iload hC 0 dX4_link_63 rfl ?_
          obtain ⟨z65, hz65, hf⟩ := gd_b hf
          refine g_callSl (wr := [oO aG 3 [.ref aT, .ref aP, .ref aW1, .ref aW2, .ref aAC, .int xG_actCount, .ref aKE, .int xG_heardMinutes, .int xG_silentMinutes, .int xG_toldCount, .long xG_seedNow]]) (wn := [oO aG 3 [.ref aT, .ref aP, .ref aW1, .ref aW2, .ref aAC, .int xG_actCount, .ref aKE, .int xG_heardMinutes, .int xG_silentMinutes, .int xG_toldCount, .long xG_seedNow]]) hC [.int j2, .int z55] (cX4_power_m (kl X) (kD X) j2 z55 z65 hz65) gX4_link_X4_power rfl kyX4_power rfl [] [0] [] [0] rfl rfl rfl rfl (by decide) rfl rfl rfl ⟨rfl, rfl⟩ ⟨Nat.le_of_ble_eq_true rfl, Nat.le_of_ble_eq_true rfl⟩ (Nat.le_of_ble_eq_true rfl) rfl dX4_link_65 ?_
          refine g_bipush (v := (10 : Int32)) hC dX4_link_68 cb_10 ?_
          refine g_iload_n hC 2 dX4_link_70 rfl rfl ?_
          refine g_isub hC dX4_link_71 ?_
          refine g_iload_n hC 3 dX4_link_72 rfl rfl ?_
          refine g_iload hC 0 dX4_link_73 rfl ?_
          refine g_isub hC dX4_link_75 ?_
          obtain ⟨z76, hz76, hf⟩ := gd_b hf
          refine g_callSl (wr := [oO aG 3 [.ref aT, .ref aP, .ref aW1, .ref aW2, .ref aAC, .int xG_actCount, .ref aKE, .int xG_heardMinutes, .int xG_silentMinutes, .int xG_toldCount, .long xG_seedNow]]) (wn := [oO aG 3 [.ref aT, .ref aP, .ref aW1, .ref aW2, .ref aAC, .int xG_actCount, .ref aKE, .int xG_heardMinutes, .int xG_silentMinutes, .int xG_toldCount, .long xG_seedNow]]) hC [.int ((10 : Int32) - j2), .int (j3 - z55)] (cX4_power_m (kl X) (kD X) ((10 : Int32) - j2) (j3 - z55) z76 hz76) gX4_link_X4_power rfl kyX4_power rfl [] [0] [] [0] rfl rfl rfl rfl (by decide) rfl rfl rfl ⟨rfl, rfl⟩ ⟨Nat.le_of_ble_eq_true rfl, Nat.le_of_ble_eq_true rfl⟩ (Nat.le_of_ble_eq_true rfl) rfl dX4_link_76 ?_
          refine g_lmul hC dX4_link_79 ?_
          refine g_ladd hC dX4_link_80 ?_
          refine g_lstore (lv' := [(5, .long (j5 + (z65 * z76))), (8, .int z55), (1, .int j1), (2, .int j2), (3, .int j3), (4, .int j4), (7, .int j7)]) hC dX4_link_81 (by decide) rfl ?_
          refine g_lv (lv' := [(1, .int j1), (2, .int j2), (3, .int j3), (4, .int j4), (5, .long (j5 + (z65 * z76))), (7, .int j7)]) [2, 3, 4, 5, 0, 6] rfl ?_
          exact t83 k35 hk35 j1 j2 j3 j4 (j5 + (z65 * z76)) j7 hf
  unfold fX4_link at hf
  refine g_iload_n hC 1 dX4_link_0 rfl rfl ?_
  refine g_iconst (v := (0 : Int32)) hC dX4_link_1 ci_0 ?_
  refine g_iconst (v := (5 : Int32)) hC dX4_link_2 ci_5 ?_
  obtain ⟨z3, hz3, hf⟩ := gd_b hf
  refine g_callSi (wr := [oO aG 3 [.ref aT, .ref aP, .ref aW1, .ref aW2, .ref aAC, .int xG_actCount, .ref aKE, .int xG_heardMinutes, .int xG_silentMinutes, .int xG_toldCount, .long xG_seedNow]]) (wn := [oO aG 3 [.ref aT, .ref aP, .ref aW1, .ref aW2, .ref aAC, .int xG_actCount, .ref aKE, .int xG_heardMinutes, .int xG_silentMinutes, .int xG_toldCount, .long xG_seedNow]]) hC [.int j1, .int (0 : Int32), .int (5 : Int32)] (cX4_within_m (kl X) (kD X) j1 (0 : Int32) (5 : Int32) z3 hz3) gX4_link_X4_within rfl kyX4_within rfl [] [0] [] [0] rfl rfl rfl rfl (by decide) rfl rfl rfl ⟨rfl, rfl⟩ ⟨Nat.le_of_ble_eq_true rfl, Nat.le_of_ble_eq_true rfl⟩ (Nat.le_of_ble_eq_true rfl) rfl dX4_link_3 ?_
  refine g_if_eq (tgt := 26) hC dX4_link_6 (by decide) (fun hc => ?_) (fun hc => ?_)
  · replace hf := gd_t hc hf
    refine g_bipush (v := (-2 : Int32)) hC dX4_link_26 cb_m2 ?_
    exact hQ ((-2 : Int32)) _ _ (gd_s hf) dX4_link_28
  · replace hf := gd_f hc hf
    refine g_iload_n hC 2 dX4_link_9 rfl rfl ?_
    obtain ⟨z10, hz10, hf⟩ := gd_b hf
    refine g_callSi (wr := [oO aG 3 [.ref aT, .ref aP, .ref aW1, .ref aW2, .ref aAC, .int xG_actCount, .ref aKE, .int xG_heardMinutes, .int xG_silentMinutes, .int xG_toldCount, .long xG_seedNow]]) (wn := [oO aG 3 [.ref aT, .ref aP, .ref aW1, .ref aW2, .ref aAC, .int xG_actCount, .ref aKE, .int xG_heardMinutes, .int xG_silentMinutes, .int xG_toldCount, .long xG_seedNow]]) hC [.int j2] (cX4_isTenths_m (kl X) (kD X) j2 z10 hz10) gX4_link_X4_isTenths rfl kyX4_isTenths rfl [] [0] [] [0] rfl rfl rfl rfl (by decide) rfl rfl rfl ⟨rfl, rfl⟩ ⟨Nat.le_of_ble_eq_true rfl, Nat.le_of_ble_eq_true rfl⟩ (Nat.le_of_ble_eq_true rfl) rfl dX4_link_10 ?_
    refine g_if_eq (tgt := 26) hC dX4_link_13 (by decide) (fun hc => ?_) (fun hc => ?_)
    · replace hf := gd_t hc hf
      refine g_bipush (v := (-2 : Int32)) hC dX4_link_26 cb_m2 ?_
      exact hQ ((-2 : Int32)) _ _ (gd_s hf) dX4_link_28
    · replace hf := gd_f hc hf
      refine g_iload_n hC 3 dX4_link_16 rfl rfl ?_
      refine g_iconst (v := (0 : Int32)) hC dX4_link_17 ci_0 ?_
      refine g_bipush (v := (6 : Int32)) hC dX4_link_18 cb_6 ?_
      obtain ⟨z20, hz20, hf⟩ := gd_b hf
      refine g_callSi (wr := [oO aG 3 [.ref aT, .ref aP, .ref aW1, .ref aW2, .ref aAC, .int xG_actCount, .ref aKE, .int xG_heardMinutes, .int xG_silentMinutes, .int xG_toldCount, .long xG_seedNow]]) (wn := [oO aG 3 [.ref aT, .ref aP, .ref aW1, .ref aW2, .ref aAC, .int xG_actCount, .ref aKE, .int xG_heardMinutes, .int xG_silentMinutes, .int xG_toldCount, .long xG_seedNow]]) hC [.int j3, .int (0 : Int32), .int (6 : Int32)] (cX4_within_m (kl X) (kD X) j3 (0 : Int32) (6 : Int32) z20 hz20) gX4_link_X4_within rfl kyX4_within rfl [] [0] [] [0] rfl rfl rfl rfl (by decide) rfl rfl rfl ⟨rfl, rfl⟩ ⟨Nat.le_of_ble_eq_true rfl, Nat.le_of_ble_eq_true rfl⟩ (Nat.le_of_ble_eq_true rfl) rfl dX4_link_20 ?_
      refine g_if_ne (tgt := 29) hC dX4_link_23 (by decide) (fun hc => ?_) (fun hc => ?_)
      · replace hf := gd_f hc hf
        refine g_lconst (v := (0 : Int64)) hC dX4_link_29 rfl ?_
        refine g_lstore (lv' := [(5, .long (0 : Int64)), (0, .ref aG), (1, .int j1), (2, .int j2), (3, .int j3), (4, .int j4)]) hC dX4_link_30 (by decide) rfl ?_
        refine g_iconst (v := (0 : Int32)) hC dX4_link_32 ci_0 ?_
        refine g_istore (lv' := [(7, .int (0 : Int32)), (5, .long (0 : Int64)), (0, .ref aG), (1, .int j1), (2, .int j2), (3, .int j3), (4, .int j4)]) hC dX4_link_33 (by decide) rfl ?_
        refine g_lv (lv' := [(1, .int j1), (2, .int j2), (3, .int j3), (4, .int j4), (5, .long (0 : Int64)), (7, .int (0 : Int32))]) [3, 4, 5, 6, 1, 0] rfl ?_
        exact t35  fu j1 j2 j3 j4 (0 : Int64) (0 : Int32) hf
      · replace hf := gd_t hc hf
        refine g_bipush (v := (-2 : Int32)) hC dX4_link_26 cb_m2 ?_
        exact hQ ((-2 : Int32)) _ _ (gd_s hf) dX4_link_28
theorem kyX4_seed : yX4_seed.cls = RX4 ∧ yX4_seed.cls ≠ "java/lang/invoke/MethodHandle" ∧ yX4_seed.cls ≠ "java/lang/invoke/VarHandle" ∧ (parseMethodDescriptor yX4_seed.desc).map (fun d => d.parameters.length) = some 1 := by decide +kernel
set_option maxHeartbeats 4000000 in
set_option maxRecDepth 100000 in
theorem cX4_seed_m (l : Launch) (D : va_G) (aG aT aP aW1 aW2 aAC aKE : Nat) (xG_actCount : Int32) (xG_heardMinutes : Int32) (xG_silentMinutes : Int32) (xG_toldCount : Int32) (xG_seedNow : Int64) (j1 : Int64) (z : Int64 × Int64) (hf : fX4_seed j1 xG_seedNow = some z) : ∀ sz : Nat, Met l yX4_seed wsX4_seed ({ frames := 0, cells := 0, slots := 0, locals := 0 } : Room) (kPre D [] [oO aG 3 [.ref aT, .ref aP, .ref aW1, .ref aW2, .ref aAC, .int xG_actCount, .ref aKE, .int xG_heardMinutes, .int xG_silentMinutes, .int xG_toldCount, .long xG_seedNow]] sz [.ref aG, .long j1]) (kQl D [] [oO aG 3 [.ref aT, .ref aP, .ref aW1, .ref aW2, .ref aAC, .int xG_actCount, .ref aKE, .int xG_heardMinutes, .int xG_silentMinutes, .int xG_toldCount, .long xG_seedNow]] sz [oO aG 3 [.ref aT, .ref aP, .ref aW1, .ref aW2, .ref aAC, .int xG_actCount, .ref aKE, .int xG_heardMinutes, .int xG_silentMinutes, .int xG_toldCount, .long z.2]] z.1) 0 0 (va_A [oO aG 3 [.ref aT, .ref aP, .ref aW1, .ref aW2, .ref aAC, .int xG_actCount, .ref aKE, .int xG_heardMinutes, .int xG_silentMinutes, .int xG_toldCount, .long xG_seedNow]] sz) := by
  refine kMet_l (own := RX4) z (fun u => u.1) (fun u => [oO aG 3 [.ref aT, .ref aP, .ref aW1, .ref aW2, .ref aAC, .int xG_actCount, .ref aKE, .int xG_heardMinutes, .int xG_silentMinutes, .int xG_toldCount, .long u.2]]) rfl (by decide) rfl ⟨rfl, rfl⟩ (Nat.le_of_ble_eq_true rfl) ?_
  intro X hXl hXD hC hQ
  subst hXl
  subst hXD
  change kG X 0 [(0, .ref aG), (1, .long j1)] [] [oO aG 3 [.ref aT, .ref aP, .ref aW1, .ref aW2, .ref aAC, .int xG_actCount, .ref aKE, .int xG_heardMinutes, .int xG_silentMinutes, .int xG_toldCount, .long xG_seedNow]]
  have hinX4 : ∀ w ∈ wsX40, w ∈ wsX4_seed := fun _ h => List.mem_cons_of_mem _ (List.mem_append_right _ h)
  unfold fX4_seed at hf
  refine g_aload_n hC 0 dX4_seed_0 rfl rfl ?_
  refine g_get (C := RX4) (T := TX4) (N := 11) (v := .long xG_seedNow) hC hinX4 0 10 rfl rfl (by decide) (List.mem_of_getElem? (i := 1) rfl) rfl dX4_seed_1 ?_
  refine g_lstore_n (lv' := [(3, .long xG_seedNow), (0, .ref aG), (1, .long j1)]) hC dX4_seed_4 rfl (by decide) rfl ?_
  refine g_aload_n hC 1 dX4_seed_5 rfl rfl ?_
  refine g_lload_n hC 2 dX4_seed_6 rfl rfl ?_
  refine g_put (C := RX4) (T := TX4) (N := 11) (ty := .long) (ws' := [oO aG 3 [.ref aT, .ref aP, .ref aW1, .ref aW2, .ref aAC, .int xG_actCount, .ref aKE, .int xG_heardMinutes, .int xG_silentMinutes, .int xG_toldCount, .long j1]]) hC tyX4_ok nmX4 hinX4 0 10 rfl rfl (by decide) (List.mem_of_getElem? (i := 1) rfl) rfl rfl rfl rfl (Nat.le_of_ble_eq_true rfl) dX4_seed_7 rfl ?_
  refine g_lload_n hC 0 dX4_seed_10 rfl rfl ?_
  exact hQ (xG_seedNow, j1) _ _ (gd_s hf) dX4_seed_11
theorem kyX4_gorges : yX4_gorges.cls = RX4 ∧ yX4_gorges.cls ≠ "java/lang/invoke/MethodHandle" ∧ yX4_gorges.cls ≠ "java/lang/invoke/VarHandle" ∧ (parseMethodDescriptor yX4_gorges.desc).map (fun d => d.parameters.length) = some 1 := by decide +kernel
set_option maxHeartbeats 4000000 in
set_option maxRecDepth 100000 in
theorem cX4_gorges_m (l : Launch) (D : va_G) (aG aT aP aW1 aW2 aAC aKE : Nat) (xG_actCount : Int32) (xG_heardMinutes : Int32) (xG_silentMinutes : Int32) (xG_toldCount : Int32) (xG_seedNow : Int64) (xP_walkers : Int32) (xP_light : Int32) (xP_water : Int32) (xP_nerves : Int32) (xP_kinds : Int32) (xW1_row : Int32) (xW1_quiets : Int32) (xW1_place : Int32) (xW1_turned : Int32) (xW2_row : Int32) (xW2_quiets : Int32) (xW2_place : Int32) (xW2_turned : Int32) (j1 : Int32) (z : Int32 × Int64 × Int32 × Int32 × Int32 × Int32) (hf : fX4_gorges j1 xG_seedNow xP_light xP_water xP_nerves xP_kinds xW1_row xW1_quiets xW1_place xW2_row xW2_quiets xW2_place xW2_turned = some z) : ∀ sz : Nat, Met l yX4_gorges wsX4_gorges ({ frames := 4, cells := 0, slots := 0, locals := 92 } : Room) (kPre D [] [oO aG 3 [.ref aT, .ref aP, .ref aW1, .ref aW2, .ref aAC, .int xG_actCount, .ref aKE, .int xG_heardMinutes, .int xG_silentMinutes, .int xG_toldCount, .long xG_seedNow], oO aP 0 [.int xP_walkers, .int xP_light, .int xP_water, .int xP_nerves, .int xP_kinds], oO aW1 2 [.ref aP, .int xW1_row, .int xW1_quiets, .int xW1_place, .int xW1_turned], oO aW2 2 [.ref aP, .int xW2_row, .int xW2_quiets, .int xW2_place, .int xW2_turned]] sz [.ref aG, .int j1]) (kQi D [] [oO aG 3 [.ref aT, .ref aP, .ref aW1, .ref aW2, .ref aAC, .int xG_actCount, .ref aKE, .int xG_heardMinutes, .int xG_silentMinutes, .int xG_toldCount, .long xG_seedNow], oO aP 0 [.int xP_walkers, .int xP_light, .int xP_water, .int xP_nerves, .int xP_kinds], oO aW1 2 [.ref aP, .int xW1_row, .int xW1_quiets, .int xW1_place, .int xW1_turned], oO aW2 2 [.ref aP, .int xW2_row, .int xW2_quiets, .int xW2_place, .int xW2_turned]] sz [oO aG 3 [.ref aT, .ref aP, .ref aW1, .ref aW2, .ref aAC, .int xG_actCount, .ref aKE, .int xG_heardMinutes, .int xG_silentMinutes, .int xG_toldCount, .long z.2.1], oO aP 0 [.int xP_walkers, .int xP_light, .int xP_water, .int xP_nerves, .int xP_kinds], oO aW1 2 [.ref aP, .int xW1_row, .int xW1_quiets, .int xW1_place, .int xW1_turned], oO aW2 2 [.ref aP, .int z.2.2.1, .int z.2.2.2.1, .int z.2.2.2.2.1, .int z.2.2.2.2.2]] z.1) 0 0 (va_A [oO aG 3 [.ref aT, .ref aP, .ref aW1, .ref aW2, .ref aAC, .int xG_actCount, .ref aKE, .int xG_heardMinutes, .int xG_silentMinutes, .int xG_toldCount, .long xG_seedNow], oO aP 0 [.int xP_walkers, .int xP_light, .int xP_water, .int xP_nerves, .int xP_kinds], oO aW1 2 [.ref aP, .int xW1_row, .int xW1_quiets, .int xW1_place, .int xW1_turned], oO aW2 2 [.ref aP, .int xW2_row, .int xW2_quiets, .int xW2_place, .int xW2_turned]] sz) := by
  refine kMet_i (own := RX4) z (fun u => u.1) (fun u => [oO aG 3 [.ref aT, .ref aP, .ref aW1, .ref aW2, .ref aAC, .int xG_actCount, .ref aKE, .int xG_heardMinutes, .int xG_silentMinutes, .int xG_toldCount, .long u.2.1], oO aP 0 [.int xP_walkers, .int xP_light, .int xP_water, .int xP_nerves, .int xP_kinds], oO aW1 2 [.ref aP, .int xW1_row, .int xW1_quiets, .int xW1_place, .int xW1_turned], oO aW2 2 [.ref aP, .int u.2.2.1, .int u.2.2.2.1, .int u.2.2.2.2.1, .int u.2.2.2.2.2]]) rfl (by decide) rfl ⟨rfl, rfl⟩ (Nat.le_of_ble_eq_true rfl) ?_
  intro X hXl hXD hC hQ
  subst hXl
  subst hXD
  change kG X 0 [(0, .ref aG), (1, .int j1)] [] [oO aG 3 [.ref aT, .ref aP, .ref aW1, .ref aW2, .ref aAC, .int xG_actCount, .ref aKE, .int xG_heardMinutes, .int xG_silentMinutes, .int xG_toldCount, .long xG_seedNow], oO aP 0 [.int xP_walkers, .int xP_light, .int xP_water, .int xP_nerves, .int xP_kinds], oO aW1 2 [.ref aP, .int xW1_row, .int xW1_quiets, .int xW1_place, .int xW1_turned], oO aW2 2 [.ref aP, .int xW2_row, .int xW2_quiets, .int xW2_place, .int xW2_turned]]
  have hinX4 : ∀ w ∈ wsX40, w ∈ wsX4_gorges := fun _ h => List.mem_cons_of_mem _ (List.mem_append_left _ (List.mem_append_left _ (List.mem_append_right _ h)))
  have t57 : ∀ (k34 : Int32 → Int32 → Int32 → Int32 → Int64 → Int32 → Int32 → Int32 → Int32 → Option (Int32 × Int64 × Int32 × Int32 × Int32 × Int32)) (hk34 : ∀ (j1 : Int32) (j2 : Int32) (j3 : Int32) (j4 : Int32) (xG_seedNow : Int64) (xW2_row : Int32) (xW2_quiets : Int32) (xW2_place : Int32) (xW2_turned : Int32), k34 j1 j2 j3 j4 xG_seedNow xW2_row xW2_quiets xW2_place xW2_turned = some z → kG X 34 [(0, .ref aG), (1, .int j1), (2, .int j2), (3, .int j3), (4, .int j4)] [] [oO aG 3 [.ref aT, .ref aP, .ref aW1, .ref aW2, .ref aAC, .int xG_actCount, .ref aKE, .int xG_heardMinutes, .int xG_silentMinutes, .int xG_toldCount, .long xG_seedNow], oO aP 0 [.int xP_walkers, .int xP_light, .int xP_water, .int xP_nerves, .int xP_kinds], oO aW1 2 [.ref aP, .int xW1_row, .int xW1_quiets, .int xW1_place, .int xW1_turned], oO aW2 2 [.ref aP, .int xW2_row, .int xW2_quiets, .int xW2_place, .int xW2_turned]]) (n : Nat) (j1 : Int32) (j2 : Int32) (j3 : Int32) (j4 : Int32) (j5 : Int32) (xG_seedNow : Int64) (xW2_row : Int32) (xW2_quiets : Int32) (xW2_place : Int32) (xW2_turned : Int32), lp (fun _ _ _ _ _ _ _ _ _ _ => none) (fX4_gorges_b57_S xP_light xP_water xP_nerves xP_kinds xW1_row xW1_quiets xW1_place k34) n j1 j2 j3 j4 j5 xG_seedNow xW2_row xW2_quiets xW2_place xW2_turned = some z → kG X 57 [(0, .ref aG), (1, .int j1), (2, .int j2), (3, .int j3), (4, .int j4), (5, .int j5)] [] [oO aG 3 [.ref aT, .ref aP, .ref aW1, .ref aW2, .ref aAC, .int xG_actCount, .ref aKE, .int xG_heardMinutes, .int xG_silentMinutes, .int xG_toldCount, .long xG_seedNow], oO aP 0 [.int xP_walkers, .int xP_light, .int xP_water, .int xP_nerves, .int xP_kinds], oO aW1 2 [.ref aP, .int xW1_row, .int xW1_quiets, .int xW1_place, .int xW1_turned], oO aW2 2 [.ref aP, .int xW2_row, .int xW2_quiets, .int xW2_place, .int xW2_turned]] := by
    intro k34 hk34 n
    induction n with
    | zero => intro j1 j2 j3 j4 j5 xG_seedNow xW2_row xW2_quiets xW2_place xW2_turned hf; cases hf
    | succ n hk57 =>
      intro j1 j2 j3 j4 j5 xG_seedNow xW2_row xW2_quiets xW2_place xW2_turned hf
      rw [lp_s] at hf
      revert hf hk57
      generalize lp (fun _ _ _ _ _ _ _ _ _ _ => none) (fX4_gorges_b57_S xP_light xP_water xP_nerves xP_kinds xW1_row xW1_quiets xW1_place k34) n = k57
      intro hk57 hf
      unfold fX4_gorges_b57_S at hf
      refine g_iload hC 5 dX4_gorges_57 rfl ?_
      refine g_iload_n hC 2 dX4_gorges_59 rfl rfl ?_
      refine g_icmp_ge (tgt := 104) hC dX4_gorges_60 (by decide) (fun hc => ?_) (fun hc => ?_)
      · replace hf := gd_t hc hf
        refine g_iload_n hC 3 dX4_gorges_104 rfl rfl ?_
        refine g_aload_n hC 0 dX4_gorges_105 rfl rfl ?_
        refine g_get (C := RX4) (T := TX4) (N := 11) (v := .ref aW2) hC hinX4 0 3 rfl rfl (by decide) (List.mem_of_getElem? (i := 3) rfl) rfl dX4_gorges_106 ?_
        obtain ⟨z109, hz109, hf⟩ := gd_b hf
        refine g_callVi (wr := [oO aG 3 [.ref aT, .ref aP, .ref aW1, .ref aW2, .ref aAC, .int xG_actCount, .ref aKE, .int xG_heardMinutes, .int xG_silentMinutes, .int xG_toldCount, .long xG_seedNow], oO aP 0 [.int xP_walkers, .int xP_light, .int xP_water, .int xP_nerves, .int xP_kinds], oO aW1 2 [.ref aP, .int xW1_row, .int xW1_quiets, .int xW1_place, .int xW1_turned]]) (wn := [oO aG 3 [.ref aT, .ref aP, .ref aW1, .ref aW2, .ref aAC, .int xG_actCount, .ref aKE, .int xG_heardMinutes, .int xG_silentMinutes, .int xG_toldCount, .long xG_seedNow], oO aP 0 [.int xP_walkers, .int xP_light, .int xP_water, .int xP_nerves, .int xP_kinds], oO aW1 2 [.ref aP, .int xW1_row, .int xW1_quiets, .int xW1_place, .int xW1_turned], oO aW2 2 [.ref aP, .int xW2_row, .int xW2_quiets, .int xW2_place, .int xW2_turned]]) hC [] (cX3_size_m (kl X) (kD X) aP aW2 xW2_row xW2_quiets xW2_place xW2_turned z109 hz109) gX4_gorges_X3_size rfl kyX3_size rfl rfl rfl (q0 := 0) rfl [3] [0, 1, 2] [] [0, 1, 2, 3] rfl rfl rfl rfl (by decide) rfl rfl rfl ⟨rfl, rfl⟩ ⟨Nat.le_of_ble_eq_true rfl, Nat.le_of_ble_eq_true rfl⟩ (Nat.le_of_ble_eq_true rfl) rfl dX4_gorges_109 ?_
        refine g_iadd hC dX4_gorges_112 ?_
        refine g_istore_n (lv' := [(3, .int (j3 + z109)), (0, .ref aG), (1, .int j1), (2, .int j2), (4, .int j4), (5, .int j5)]) hC dX4_gorges_113 rfl (by decide) rfl ?_
        refine g_iinc (v := (j4 + (1 : Int32))) (lv' := [(4, .int (j4 + (1 : Int32))), (3, .int (j3 + z109)), (0, .ref aG), (1, .int j1), (2, .int j2), (5, .int j5)]) hC 4 dX4_gorges_114 rfl (ii _ ci_1) (by decide) rfl ?_
        refine g_goto (tgt := 34) hC dX4_gorges_117 (by decide) ?_
        refine g_lv (lv' := [(0, .ref aG), (1, .int j1), (2, .int j2), (3, .int (j3 + z109)), (4, .int (j4 + (1 : Int32)))]) [2, 3, 4, 1, 0] rfl ?_
        exact hk34 j1 j2 (j3 + z109) (j4 + (1 : Int32)) xG_seedNow xW2_row xW2_quiets xW2_place xW2_turned hf
      · replace hf := gd_f hc hf
        refine g_aload_n hC 0 dX4_gorges_63 rfl rfl ?_
        refine g_aload_n hC 0 dX4_gorges_64 rfl rfl ?_
        refine g_get (C := RX4) (T := TX4) (N := 11) (v := .long xG_seedNow) hC hinX4 0 10 rfl rfl (by decide) (List.mem_of_getElem? (i := 4) rfl) rfl dX4_gorges_65 ?_
        refine g_ldc2 (v := (6364136223846793005 : Int64)) hC dX4_gorges_68 (List.mem_of_getElem? (i := 5) rfl) ?_
        refine g_lmul hC dX4_gorges_71 ?_
        refine g_ldc2 (v := (1442695040888963407 : Int64)) hC dX4_gorges_72 (List.mem_of_getElem? (i := 6) rfl) ?_
        refine g_ladd hC dX4_gorges_75 ?_
        refine g_put (C := RX4) (T := TX4) (N := 11) (ty := .long) (ws' := [oO aG 3 [.ref aT, .ref aP, .ref aW1, .ref aW2, .ref aAC, .int xG_actCount, .ref aKE, .int xG_heardMinutes, .int xG_silentMinutes, .int xG_toldCount, .long ((xG_seedNow * (6364136223846793005 : Int64)) + (1442695040888963407 : Int64))], oO aP 0 [.int xP_walkers, .int xP_light, .int xP_water, .int xP_nerves, .int xP_kinds], oO aW1 2 [.ref aP, .int xW1_row, .int xW1_quiets, .int xW1_place, .int xW1_turned], oO aW2 2 [.ref aP, .int xW2_row, .int xW2_quiets, .int xW2_place, .int xW2_turned]]) hC tyX4_ok nmX4 hinX4 0 10 rfl rfl (by decide) (List.mem_of_getElem? (i := 4) rfl) rfl rfl rfl rfl (Nat.le_of_ble_eq_true rfl) dX4_gorges_76 rfl ?_
        refine g_aload_n hC 0 dX4_gorges_79 rfl rfl ?_
        refine g_get (C := RX4) (T := TX4) (N := 11) (v := .ref aW2) hC hinX4 0 3 rfl rfl (by decide) (List.mem_of_getElem? (i := 3) rfl) rfl dX4_gorges_80 ?_
        refine g_aload_n hC 0 dX4_gorges_83 rfl rfl ?_
        refine g_get (C := RX4) (T := TX4) (N := 11) (v := .long ((xG_seedNow * (6364136223846793005 : Int64)) + (1442695040888963407 : Int64))) hC hinX4 0 10 rfl rfl (by decide) (List.mem_of_getElem? (i := 4) rfl) rfl dX4_gorges_84 ?_
        refine g_bipush (v := (33 : Int32)) hC dX4_gorges_87 cb_33 ?_
        refine g_lushr hC dX4_gorges_89 ?_
        refine g_l2i hC dX4_gorges_90 ?_
        refine g_bipush (v := (31 : Int32)) hC dX4_gorges_91 cb_31 ?_
        refine g_iand hC dX4_gorges_93 ?_
        obtain ⟨z94, hz94, hf⟩ := gd_b hf
        refine g_callVi (wr := [oO aG 3 [.ref aT, .ref aP, .ref aW1, .ref aW2, .ref aAC, .int xG_actCount, .ref aKE, .int xG_heardMinutes, .int xG_silentMinutes, .int xG_toldCount, .long ((xG_seedNow * (6364136223846793005 : Int64)) + (1442695040888963407 : Int64))], oO aW1 2 [.ref aP, .int xW1_row, .int xW1_quiets, .int xW1_place, .int xW1_turned]]) (wn := [oO aG 3 [.ref aT, .ref aP, .ref aW1, .ref aW2, .ref aAC, .int xG_actCount, .ref aKE, .int xG_heardMinutes, .int xG_silentMinutes, .int xG_toldCount, .long ((xG_seedNow * (6364136223846793005 : Int64)) + (1442695040888963407 : Int64))], oO aP 0 [.int xP_walkers, .int xP_light, .int xP_water, .int xP_nerves, .int xP_kinds], oO aW1 2 [.ref aP, .int xW1_row, .int xW1_quiets, .int xW1_place, .int xW1_turned], oO aW2 2 [.ref aP, .int z94.2.1, .int z94.2.2.1, .int z94.2.2.2.1, .int z94.2.2.2.2]]) hC [.int (((((xG_seedNow * (6364136223846793005 : Int64)) + (1442695040888963407 : Int64)).toUInt64 >>> ((33 : Int32).toInt64.toUInt64 &&& Int64.toUInt64 63)).toInt64).toInt32 &&& (31 : Int32))] (cX3_step_m (kl X) (kD X) aP aW2 xP_walkers xP_light xP_water xP_nerves xP_kinds xW2_row xW2_quiets xW2_place xW2_turned (((((xG_seedNow * (6364136223846793005 : Int64)) + (1442695040888963407 : Int64)).toUInt64 >>> ((33 : Int32).toInt64.toUInt64 &&& Int64.toUInt64 63)).toInt64).toInt32 &&& (31 : Int32)) z94 hz94) gX4_gorges_X3_step rfl kyX3_step rfl rfl rfl (q0 := 1) rfl [1, 3] [0, 2] [] [0, 2, 1, 3] rfl rfl rfl rfl (by decide) rfl rfl rfl ⟨rfl, rfl⟩ ⟨Nat.le_of_ble_eq_true rfl, Nat.le_of_ble_eq_true rfl⟩ (Nat.le_of_ble_eq_true rfl) rfl dX4_gorges_94 ?_
        refine g_pop hC dX4_gorges_97 rfl ?_
        refine g_iinc (v := (j5 + (1 : Int32))) (lv' := [(5, .int (j5 + (1 : Int32))), (0, .ref aG), (1, .int j1), (2, .int j2), (3, .int j3), (4, .int j4)]) hC 5 dX4_gorges_98 rfl (ii _ ci_1) (by decide) rfl ?_
        refine g_goto (tgt := 57) hC dX4_gorges_101 (by decide) ?_
        refine g_lv (lv' := [(0, .ref aG), (1, .int j1), (2, .int j2), (3, .int j3), (4, .int j4), (5, .int (j5 + (1 : Int32)))]) [1, 2, 3, 4, 5, 0] rfl ?_
        exact hk57 j1 j2 j3 j4 (j5 + (1 : Int32)) ((xG_seedNow * (6364136223846793005 : Int64)) + (1442695040888963407 : Int64)) z94.2.1 z94.2.2.1 z94.2.2.2.1 z94.2.2.2.2 hf
  have t34 : ∀  (n : Nat) (j1 : Int32) (j2 : Int32) (j3 : Int32) (j4 : Int32) (xG_seedNow : Int64) (xW2_row : Int32) (xW2_quiets : Int32) (xW2_place : Int32) (xW2_turned : Int32), lp (fun _ _ _ _ _ _ _ _ _ => none) (fX4_gorges_b34_S xP_light xP_water xP_nerves xP_kinds xW1_row xW1_quiets xW1_place ) n j1 j2 j3 j4 xG_seedNow xW2_row xW2_quiets xW2_place xW2_turned = some z → kG X 34 [(0, .ref aG), (1, .int j1), (2, .int j2), (3, .int j3), (4, .int j4)] [] [oO aG 3 [.ref aT, .ref aP, .ref aW1, .ref aW2, .ref aAC, .int xG_actCount, .ref aKE, .int xG_heardMinutes, .int xG_silentMinutes, .int xG_toldCount, .long xG_seedNow], oO aP 0 [.int xP_walkers, .int xP_light, .int xP_water, .int xP_nerves, .int xP_kinds], oO aW1 2 [.ref aP, .int xW1_row, .int xW1_quiets, .int xW1_place, .int xW1_turned], oO aW2 2 [.ref aP, .int xW2_row, .int xW2_quiets, .int xW2_place, .int xW2_turned]] := by
    intro  n
    induction n with
    | zero => intro j1 j2 j3 j4 xG_seedNow xW2_row xW2_quiets xW2_place xW2_turned hf; cases hf
    | succ n hk34 =>
      intro j1 j2 j3 j4 xG_seedNow xW2_row xW2_quiets xW2_place xW2_turned hf
      rw [lp_s] at hf
      revert hf hk34
      generalize lp (fun _ _ _ _ _ _ _ _ _ => none) (fX4_gorges_b34_S xP_light xP_water xP_nerves xP_kinds xW1_row xW1_quiets xW1_place ) n = k34
      intro hk34 hf
      unfold fX4_gorges_b34_S at hf
      refine g_iload hC 4 dX4_gorges_34 rfl ?_
      refine g_iload_n hC 1 dX4_gorges_36 rfl rfl ?_
      refine g_icmp_ge (tgt := 120) hC dX4_gorges_37 (by decide) (fun hc => ?_) (fun hc => ?_)
      · replace hf := gd_t hc hf
        refine g_iload_n hC 3 dX4_gorges_120 rfl rfl ?_
        exact hQ (j3, xG_seedNow, xW2_row, xW2_quiets, xW2_place, xW2_turned) _ _ (gd_s hf) dX4_gorges_121
      · replace hf := gd_f hc hf
        refine g_aload_n hC 0 dX4_gorges_40 rfl rfl ?_
        refine g_get (C := RX4) (T := TX4) (N := 11) (v := .ref aW2) hC hinX4 0 3 rfl rfl (by decide) (List.mem_of_getElem? (i := 3) rfl) rfl dX4_gorges_41 ?_
        refine g_aload_n hC 0 dX4_gorges_44 rfl rfl ?_
        refine g_get (C := RX4) (T := TX4) (N := 11) (v := .ref aW1) hC hinX4 0 2 rfl rfl (by decide) (List.mem_of_getElem? (i := 2) rfl) rfl dX4_gorges_45 ?_
        obtain ⟨z48, hz48, hf⟩ := gd_b hf
        refine g_callVl (wr := [oO aG 3 [.ref aT, .ref aP, .ref aW1, .ref aW2, .ref aAC, .int xG_actCount, .ref aKE, .int xG_heardMinutes, .int xG_silentMinutes, .int xG_toldCount, .long xG_seedNow], oO aP 0 [.int xP_walkers, .int xP_light, .int xP_water, .int xP_nerves, .int xP_kinds], oO aW2 2 [.ref aP, .int xW2_row, .int xW2_quiets, .int xW2_place, .int xW2_turned]]) (wn := [oO aG 3 [.ref aT, .ref aP, .ref aW1, .ref aW2, .ref aAC, .int xG_actCount, .ref aKE, .int xG_heardMinutes, .int xG_silentMinutes, .int xG_toldCount, .long xG_seedNow], oO aP 0 [.int xP_walkers, .int xP_light, .int xP_water, .int xP_nerves, .int xP_kinds], oO aW1 2 [.ref aP, .int xW1_row, .int xW1_quiets, .int xW1_place, .int xW1_turned], oO aW2 2 [.ref aP, .int xW2_row, .int xW2_quiets, .int xW2_place, .int xW2_turned]]) hC [] (cX3_state_m (kl X) (kD X) aP aW1 xW1_row xW1_quiets xW1_place xW1_turned z48 hz48) gX4_gorges_X3_state rfl kyX3_state rfl rfl rfl (q0 := 0) rfl [2] [0, 1, 3] [] [0, 1, 3, 2] rfl rfl rfl rfl (by decide) rfl rfl rfl ⟨rfl, rfl⟩ ⟨Nat.le_of_ble_eq_true rfl, Nat.le_of_ble_eq_true rfl⟩ (Nat.le_of_ble_eq_true rfl) rfl dX4_gorges_48 ?_
        obtain ⟨z51, hz51, hf⟩ := gd_b hf
        refine g_callVv (wr := [oO aG 3 [.ref aT, .ref aP, .ref aW1, .ref aW2, .ref aAC, .int xG_actCount, .ref aKE, .int xG_heardMinutes, .int xG_silentMinutes, .int xG_toldCount, .long xG_seedNow], oO aP 0 [.int xP_walkers, .int xP_light, .int xP_water, .int xP_nerves, .int xP_kinds], oO aW1 2 [.ref aP, .int xW1_row, .int xW1_quiets, .int xW1_place, .int xW1_turned]]) (wn := [oO aG 3 [.ref aT, .ref aP, .ref aW1, .ref aW2, .ref aAC, .int xG_actCount, .ref aKE, .int xG_heardMinutes, .int xG_silentMinutes, .int xG_toldCount, .long xG_seedNow], oO aP 0 [.int xP_walkers, .int xP_light, .int xP_water, .int xP_nerves, .int xP_kinds], oO aW1 2 [.ref aP, .int xW1_row, .int xW1_quiets, .int xW1_place, .int xW1_turned], oO aW2 2 [.ref aP, .int z51.1, .int z51.2.1, .int z51.2.2, .int xW2_turned]]) hC [.long z48] (cX3_become_m (kl X) (kD X) aP aW2 xW2_row xW2_quiets xW2_place xW2_turned z48 z51 hz51) gX4_gorges_X3_become rfl kyX3_become rfl rfl rfl (q0 := 0) rfl [3] [0, 1, 2] [] [0, 1, 2, 3] rfl rfl rfl rfl (by decide) rfl rfl rfl ⟨rfl, rfl⟩ ⟨Nat.le_of_ble_eq_true rfl, Nat.le_of_ble_eq_true rfl⟩ (Nat.le_of_ble_eq_true rfl) rfl dX4_gorges_51 ?_
        refine g_iconst (v := (0 : Int32)) hC dX4_gorges_54 ci_0 ?_
        refine g_istore (lv' := [(5, .int (0 : Int32)), (0, .ref aG), (1, .int j1), (2, .int j2), (3, .int j3), (4, .int j4)]) hC dX4_gorges_55 (by decide) rfl ?_
        refine g_lv (lv' := [(0, .ref aG), (1, .int j1), (2, .int j2), (3, .int j3), (4, .int j4), (5, .int (0 : Int32))]) [1, 2, 3, 4, 5, 0] rfl ?_
        exact t57 k34 hk34 fu j1 j2 j3 j4 (0 : Int32) xG_seedNow z51.1 z51.2.1 z51.2.2 xW2_turned hf
  unfold fX4_gorges at hf
  refine g_iload_n hC 1 dX4_gorges_0 rfl rfl ?_
  refine g_iconst (v := (1 : Int32)) hC dX4_gorges_1 ci_1 ?_
  refine g_bipush (v := (20 : Int32)) hC dX4_gorges_2 cb_20 ?_
  obtain ⟨z4, hz4, hf⟩ := gd_b hf
  refine g_callSi (wr := [oO aG 3 [.ref aT, .ref aP, .ref aW1, .ref aW2, .ref aAC, .int xG_actCount, .ref aKE, .int xG_heardMinutes, .int xG_silentMinutes, .int xG_toldCount, .long xG_seedNow], oO aP 0 [.int xP_walkers, .int xP_light, .int xP_water, .int xP_nerves, .int xP_kinds], oO aW1 2 [.ref aP, .int xW1_row, .int xW1_quiets, .int xW1_place, .int xW1_turned], oO aW2 2 [.ref aP, .int xW2_row, .int xW2_quiets, .int xW2_place, .int xW2_turned]]) (wn := [oO aG 3 [.ref aT, .ref aP, .ref aW1, .ref aW2, .ref aAC, .int xG_actCount, .ref aKE, .int xG_heardMinutes, .int xG_silentMinutes, .int xG_toldCount, .long xG_seedNow], oO aP 0 [.int xP_walkers, .int xP_light, .int xP_water, .int xP_nerves, .int xP_kinds], oO aW1 2 [.ref aP, .int xW1_row, .int xW1_quiets, .int xW1_place, .int xW1_turned], oO aW2 2 [.ref aP, .int xW2_row, .int xW2_quiets, .int xW2_place, .int xW2_turned]]) hC [.int j1, .int (1 : Int32), .int (20 : Int32)] (cX4_within_m (kl X) (kD X) j1 (1 : Int32) (20 : Int32) z4 hz4) gX4_gorges_X4_within rfl kyX4_within rfl [] [0, 1, 2, 3] [] [0, 1, 2, 3] rfl rfl rfl rfl (by decide) rfl rfl rfl ⟨rfl, rfl⟩ ⟨Nat.le_of_ble_eq_true rfl, Nat.le_of_ble_eq_true rfl⟩ (Nat.le_of_ble_eq_true rfl) rfl dX4_gorges_4 ?_
  refine g_if_ne (tgt := 13) hC dX4_gorges_7 (by decide) (fun hc => ?_) (fun hc => ?_)
  · replace hf := gd_f hc hf
    refine g_aload_n hC 0 dX4_gorges_13 rfl rfl ?_
    refine g_get (C := RX4) (T := TX4) (N := 11) (v := .ref aP) hC hinX4 0 1 rfl rfl (by decide) (List.mem_of_getElem? (i := 1) rfl) rfl dX4_gorges_14 ?_
    obtain ⟨z17, hz17, hf⟩ := gd_b hf
    refine g_callVi (wr := [oO aG 3 [.ref aT, .ref aP, .ref aW1, .ref aW2, .ref aAC, .int xG_actCount, .ref aKE, .int xG_heardMinutes, .int xG_silentMinutes, .int xG_toldCount, .long xG_seedNow], oO aW1 2 [.ref aP, .int xW1_row, .int xW1_quiets, .int xW1_place, .int xW1_turned], oO aW2 2 [.ref aP, .int xW2_row, .int xW2_quiets, .int xW2_place, .int xW2_turned]]) (wn := [oO aG 3 [.ref aT, .ref aP, .ref aW1, .ref aW2, .ref aAC, .int xG_actCount, .ref aKE, .int xG_heardMinutes, .int xG_silentMinutes, .int xG_toldCount, .long xG_seedNow], oO aP 0 [.int xP_walkers, .int xP_light, .int xP_water, .int xP_nerves, .int xP_kinds], oO aW1 2 [.ref aP, .int xW1_row, .int xW1_quiets, .int xW1_place, .int xW1_turned], oO aW2 2 [.ref aP, .int xW2_row, .int xW2_quiets, .int xW2_place, .int xW2_turned]]) hC [] (cX1_light_m (kl X) (kD X) aP xP_walkers xP_light xP_water xP_nerves xP_kinds z17 hz17) gX4_gorges_X1_light rfl kyX1_light rfl rfl rfl (q0 := 0) rfl [1] [0, 2, 3] [] [0, 3, 1, 2] rfl rfl rfl rfl (by decide) rfl rfl rfl ⟨rfl, rfl⟩ ⟨Nat.le_of_ble_eq_true rfl, Nat.le_of_ble_eq_true rfl⟩ (Nat.le_of_ble_eq_true rfl) rfl dX4_gorges_17 ?_
    refine g_aload_n hC 0 dX4_gorges_20 rfl rfl ?_
    refine g_get (C := RX4) (T := TX4) (N := 11) (v := .ref aW1) hC hinX4 0 2 rfl rfl (by decide) (List.mem_of_getElem? (i := 2) rfl) rfl dX4_gorges_21 ?_
    obtain ⟨z24, hz24, hf⟩ := gd_b hf
    refine g_callVi (wr := [oO aG 3 [.ref aT, .ref aP, .ref aW1, .ref aW2, .ref aAC, .int xG_actCount, .ref aKE, .int xG_heardMinutes, .int xG_silentMinutes, .int xG_toldCount, .long xG_seedNow], oO aP 0 [.int xP_walkers, .int xP_light, .int xP_water, .int xP_nerves, .int xP_kinds], oO aW2 2 [.ref aP, .int xW2_row, .int xW2_quiets, .int xW2_place, .int xW2_turned]]) (wn := [oO aG 3 [.ref aT, .ref aP, .ref aW1, .ref aW2, .ref aAC, .int xG_actCount, .ref aKE, .int xG_heardMinutes, .int xG_silentMinutes, .int xG_toldCount, .long xG_seedNow], oO aP 0 [.int xP_walkers, .int xP_light, .int xP_water, .int xP_nerves, .int xP_kinds], oO aW1 2 [.ref aP, .int xW1_row, .int xW1_quiets, .int xW1_place, .int xW1_turned], oO aW2 2 [.ref aP, .int xW2_row, .int xW2_quiets, .int xW2_place, .int xW2_turned]]) hC [] (cX3_place_m (kl X) (kD X) aP aW1 xW1_row xW1_quiets xW1_place xW1_turned z24 hz24) gX4_gorges_X3_place rfl kyX3_place rfl rfl rfl (q0 := 0) rfl [2] [0, 1, 3] [] [0, 1, 3, 2] rfl rfl rfl rfl (by decide) rfl rfl rfl ⟨rfl, rfl⟩ ⟨Nat.le_of_ble_eq_true rfl, Nat.le_of_ble_eq_true rfl⟩ (Nat.le_of_ble_eq_true rfl) rfl dX4_gorges_24 ?_
    refine g_isub hC dX4_gorges_27 ?_
    refine g_istore_n (lv' := [(2, .int (z17 - z24)), (0, .ref aG), (1, .int j1)]) hC dX4_gorges_28 rfl (by decide) rfl ?_
    refine g_iconst (v := (0 : Int32)) hC dX4_gorges_29 ci_0 ?_
    refine g_istore_n (lv' := [(3, .int (0 : Int32)), (2, .int (z17 - z24)), (0, .ref aG), (1, .int j1)]) hC dX4_gorges_30 rfl (by decide) rfl ?_
    refine g_iconst (v := (0 : Int32)) hC dX4_gorges_31 ci_0 ?_
    refine g_istore (lv' := [(4, .int (0 : Int32)), (3, .int (0 : Int32)), (2, .int (z17 - z24)), (0, .ref aG), (1, .int j1)]) hC dX4_gorges_32 (by decide) rfl ?_
    refine g_lv (lv' := [(0, .ref aG), (1, .int j1), (2, .int (z17 - z24)), (3, .int (0 : Int32)), (4, .int (0 : Int32))]) [3, 4, 2, 1, 0] rfl ?_
    exact t34  fu j1 (z17 - z24) (0 : Int32) (0 : Int32) xG_seedNow xW2_row xW2_quiets xW2_place xW2_turned hf
  · replace hf := gd_t hc hf
    refine g_bipush (v := (-2 : Int32)) hC dX4_gorges_10 cb_m2 ?_
    exact hQ ((-2 : Int32), xG_seedNow, xW2_row, xW2_quiets, xW2_place, xW2_turned) _ _ (gd_s hf) dX4_gorges_12
theorem kyX4_keep : yX4_keep.cls = RX4 ∧ yX4_keep.cls ≠ "java/lang/invoke/MethodHandle" ∧ yX4_keep.cls ≠ "java/lang/invoke/VarHandle" ∧ (parseMethodDescriptor yX4_keep.desc).map (fun d => d.parameters.length) = some 1 := by decide +kernel
set_option maxHeartbeats 4000000 in
set_option maxRecDepth 100000 in
theorem cX4_keep_m (l : Launch) (D : va_G) (aG aT aP aW1 aW2 aAC aKE : Nat) (iKE : ClassId) (xG_actCount : Int32) (xG_heardMinutes : Int32) (xG_silentMinutes : Int32) (xG_toldCount : Int32) (xG_seedNow : Int64) (xW1_row : Int32) (xW1_quiets : Int32) (xW1_place : Int32) (xW1_turned : Int32) (xKE : Nat → Int64) (j1 : Int32) (z : Int32 × (Nat → Int64)) (hf : fX4_keep j1 xW1_row xW1_quiets xW1_place xKE = some z) : ∀ sz : Nat, Met l yX4_keep wsX4_keep ({ frames := 1, cells := 0, slots := 0, locals := 22 } : Room) (kPre D [(iKE, .long)] [oO aG 3 [.ref aT, .ref aP, .ref aW1, .ref aW2, .ref aAC, .int xG_actCount, .ref aKE, .int xG_heardMinutes, .int xG_silentMinutes, .int xG_toldCount, .long xG_seedNow], oO aW1 2 [.ref aP, .int xW1_row, .int xW1_quiets, .int xW1_place, .int xW1_turned], oJ aKE iKE 2 xKE] sz [.ref aG, .int j1]) (kQi D [(iKE, .long)] [oO aG 3 [.ref aT, .ref aP, .ref aW1, .ref aW2, .ref aAC, .int xG_actCount, .ref aKE, .int xG_heardMinutes, .int xG_silentMinutes, .int xG_toldCount, .long xG_seedNow], oO aW1 2 [.ref aP, .int xW1_row, .int xW1_quiets, .int xW1_place, .int xW1_turned], oJ aKE iKE 2 xKE] sz [oO aG 3 [.ref aT, .ref aP, .ref aW1, .ref aW2, .ref aAC, .int xG_actCount, .ref aKE, .int xG_heardMinutes, .int xG_silentMinutes, .int xG_toldCount, .long xG_seedNow], oO aW1 2 [.ref aP, .int xW1_row, .int xW1_quiets, .int xW1_place, .int xW1_turned], oJ aKE iKE 2 z.2] z.1) 0 0 (va_A [oO aG 3 [.ref aT, .ref aP, .ref aW1, .ref aW2, .ref aAC, .int xG_actCount, .ref aKE, .int xG_heardMinutes, .int xG_silentMinutes, .int xG_toldCount, .long xG_seedNow], oO aW1 2 [.ref aP, .int xW1_row, .int xW1_quiets, .int xW1_place, .int xW1_turned], oJ aKE iKE 2 xKE] sz) := by
  refine kMet_i (own := RX4) z (fun u => u.1) (fun u => [oO aG 3 [.ref aT, .ref aP, .ref aW1, .ref aW2, .ref aAC, .int xG_actCount, .ref aKE, .int xG_heardMinutes, .int xG_silentMinutes, .int xG_toldCount, .long xG_seedNow], oO aW1 2 [.ref aP, .int xW1_row, .int xW1_quiets, .int xW1_place, .int xW1_turned], oJ aKE iKE 2 u.2]) rfl (by decide) rfl ⟨rfl, rfl⟩ (Nat.le_of_ble_eq_true rfl) ?_
  intro X hXl hXD hC hQ
  subst hXl
  subst hXD
  change kG X 0 [(0, .ref aG), (1, .int j1)] [] [oO aG 3 [.ref aT, .ref aP, .ref aW1, .ref aW2, .ref aAC, .int xG_actCount, .ref aKE, .int xG_heardMinutes, .int xG_silentMinutes, .int xG_toldCount, .long xG_seedNow], oO aW1 2 [.ref aP, .int xW1_row, .int xW1_quiets, .int xW1_place, .int xW1_turned], oJ aKE iKE 2 xKE]
  have hinX4 : ∀ w ∈ wsX40, w ∈ wsX4_keep := fun _ h => List.mem_cons_of_mem _ (List.mem_append_left _ (List.mem_append_right _ h))
  unfold fX4_keep at hf
  refine g_iload_n hC 1 dX4_keep_0 rfl rfl ?_
  refine g_iconst (v := (0 : Int32)) hC dX4_keep_1 ci_0 ?_
  refine g_aload_n hC 0 dX4_keep_2 rfl rfl ?_
  refine g_get (C := RX4) (T := TX4) (N := 11) (v := .ref aKE) hC hinX4 0 6 rfl rfl (by decide) (List.mem_of_getElem? (i := 1) rfl) rfl dX4_keep_3 ?_
  refine g_alen (v := (2 : Int32)) hC 2 0 rfl rfl cn_2 dX4_keep_6 ?_
  refine g_iconst (v := (1 : Int32)) hC dX4_keep_7 ci_1 ?_
  refine g_isub hC dX4_keep_8 ?_
  obtain ⟨z9, hz9, hf⟩ := gd_b hf
  refine g_callSi (wr := [oO aG 3 [.ref aT, .ref aP, .ref aW1, .ref aW2, .ref aAC, .int xG_actCount, .ref aKE, .int xG_heardMinutes, .int xG_silentMinutes, .int xG_toldCount, .long xG_seedNow], oO aW1 2 [.ref aP, .int xW1_row, .int xW1_quiets, .int xW1_place, .int xW1_turned], oJ aKE iKE 2 xKE]) (wn := [oO aG 3 [.ref aT, .ref aP, .ref aW1, .ref aW2, .ref aAC, .int xG_actCount, .ref aKE, .int xG_heardMinutes, .int xG_silentMinutes, .int xG_toldCount, .long xG_seedNow], oO aW1 2 [.ref aP, .int xW1_row, .int xW1_quiets, .int xW1_place, .int xW1_turned], oJ aKE iKE 2 xKE]) hC [.int j1, .int (0 : Int32), .int ((2 : Int32) - (1 : Int32))] (cX4_within_m (kl X) (kD X) j1 (0 : Int32) ((2 : Int32) - (1 : Int32)) z9 hz9) gX4_keep_X4_within rfl kyX4_within rfl [] [0, 1, 2] [] [0, 1, 2] rfl rfl rfl rfl (by decide) rfl rfl rfl ⟨rfl, rfl⟩ ⟨Nat.le_of_ble_eq_true rfl, Nat.le_of_ble_eq_true rfl⟩ (Nat.le_of_ble_eq_true rfl) rfl dX4_keep_9 ?_
  refine g_if_ne (tgt := 17) hC dX4_keep_12 (by decide) (fun hc => ?_) (fun hc => ?_)
  · replace hf := gd_f hc hf
    refine g_aload_n hC 0 dX4_keep_17 rfl rfl ?_
    refine g_get (C := RX4) (T := TX4) (N := 11) (v := .ref aKE) hC hinX4 0 6 rfl rfl (by decide) (List.mem_of_getElem? (i := 1) rfl) rfl dX4_keep_18 ?_
    refine g_iload_n hC 1 dX4_keep_21 rfl rfl ?_
    refine g_aload_n hC 0 dX4_keep_22 rfl rfl ?_
    refine g_get (C := RX4) (T := TX4) (N := 11) (v := .ref aW1) hC hinX4 0 2 rfl rfl (by decide) (List.mem_of_getElem? (i := 2) rfl) rfl dX4_keep_23 ?_
    obtain ⟨z26, hz26, hf⟩ := gd_b hf
    refine g_callVl (wr := [oO aG 3 [.ref aT, .ref aP, .ref aW1, .ref aW2, .ref aAC, .int xG_actCount, .ref aKE, .int xG_heardMinutes, .int xG_silentMinutes, .int xG_toldCount, .long xG_seedNow], oJ aKE iKE 2 xKE]) (wn := [oO aG 3 [.ref aT, .ref aP, .ref aW1, .ref aW2, .ref aAC, .int xG_actCount, .ref aKE, .int xG_heardMinutes, .int xG_silentMinutes, .int xG_toldCount, .long xG_seedNow], oO aW1 2 [.ref aP, .int xW1_row, .int xW1_quiets, .int xW1_place, .int xW1_turned], oJ aKE iKE 2 xKE]) hC [] (cX3_state_m (kl X) (kD X) aP aW1 xW1_row xW1_quiets xW1_place xW1_turned z26 hz26) gX4_keep_X3_state rfl kyX3_state rfl rfl rfl (q0 := 0) rfl [1] [0, 2] [] [0, 2, 1] rfl rfl rfl rfl (by decide) rfl rfl rfl ⟨rfl, rfl⟩ ⟨Nat.le_of_ble_eq_true rfl, Nat.le_of_ble_eq_true rfl⟩ (Nat.le_of_ble_eq_true rfl) rfl dX4_keep_26 ?_
    obtain ⟨hg, hf⟩ := gd_ga hf
    refine g_last (ws' := [oO aG 3 [.ref aT, .ref aP, .ref aW1, .ref aW2, .ref aAC, .int xG_actCount, .ref aKE, .int xG_heardMinutes, .int xG_silentMinutes, .int xG_toldCount, .long xG_seedNow], oO aW1 2 [.ref aP, .int xW1_row, .int xW1_quiets, .int xW1_place, .int xW1_turned], oJ aKE iKE 2 (vp_updL xKE j1.toNatClampNeg z26)]) hC 2 0 hg rfl rfl dX4_keep_29 rfl ?_
    refine g_aload_n hC 0 dX4_keep_30 rfl rfl ?_
    refine g_get (C := RX4) (T := TX4) (N := 11) (v := .ref aW1) hC hinX4 0 2 rfl rfl (by decide) (List.mem_of_getElem? (i := 2) rfl) rfl dX4_keep_31 ?_
    obtain ⟨z34, hz34, hf⟩ := gd_b hf
    refine g_callVi (wr := [oO aG 3 [.ref aT, .ref aP, .ref aW1, .ref aW2, .ref aAC, .int xG_actCount, .ref aKE, .int xG_heardMinutes, .int xG_silentMinutes, .int xG_toldCount, .long xG_seedNow], oJ aKE iKE 2 (vp_updL xKE j1.toNatClampNeg z26)]) (wn := [oO aG 3 [.ref aT, .ref aP, .ref aW1, .ref aW2, .ref aAC, .int xG_actCount, .ref aKE, .int xG_heardMinutes, .int xG_silentMinutes, .int xG_toldCount, .long xG_seedNow], oO aW1 2 [.ref aP, .int xW1_row, .int xW1_quiets, .int xW1_place, .int xW1_turned], oJ aKE iKE 2 (vp_updL xKE j1.toNatClampNeg z26)]) hC [] (cX3_place_m (kl X) (kD X) aP aW1 xW1_row xW1_quiets xW1_place xW1_turned z34 hz34) gX4_keep_X3_place rfl kyX3_place rfl rfl rfl (q0 := 0) rfl [1] [0, 2] [] [0, 2, 1] rfl rfl rfl rfl (by decide) rfl rfl rfl ⟨rfl, rfl⟩ ⟨Nat.le_of_ble_eq_true rfl, Nat.le_of_ble_eq_true rfl⟩ (Nat.le_of_ble_eq_true rfl) rfl dX4_keep_34 ?_
    exact hQ (z34, (vp_updL xKE j1.toNatClampNeg z26)) _ _ (gd_s hf) dX4_keep_37
  · replace hf := gd_t hc hf
    refine g_iconst (v := (-1 : Int32)) hC dX4_keep_15 ci_m1 ?_
    exact hQ ((-1 : Int32), xKE) _ _ (gd_s hf) dX4_keep_16
theorem kyX4_again : yX4_again.cls = RX4 ∧ yX4_again.cls ≠ "java/lang/invoke/MethodHandle" ∧ yX4_again.cls ≠ "java/lang/invoke/VarHandle" ∧ (parseMethodDescriptor yX4_again.desc).map (fun d => d.parameters.length) = some 1 := by decide +kernel
set_option maxHeartbeats 4000000 in
set_option maxRecDepth 100000 in
theorem cX4_again_m (l : Launch) (D : va_G) (aG aT aP aW1 aW2 aAC aKE : Nat) (iKE : ClassId) (xG_actCount : Int32) (xG_heardMinutes : Int32) (xG_silentMinutes : Int32) (xG_toldCount : Int32) (xG_seedNow : Int64) (xW1_row : Int32) (xW1_quiets : Int32) (xW1_place : Int32) (xW1_turned : Int32) (xKE : Nat → Int64) (j1 : Int32) (z : Int32 × Int32 × Int32 × Int32 × Int32) (hf : fX4_again j1 xG_actCount xW1_row xW1_quiets xW1_place xKE = some z) : ∀ sz : Nat, Met l yX4_again wsX4_again ({ frames := 1, cells := 0, slots := 0, locals := 22 } : Room) (kPre D [(iKE, .long)] [oO aG 3 [.ref aT, .ref aP, .ref aW1, .ref aW2, .ref aAC, .int xG_actCount, .ref aKE, .int xG_heardMinutes, .int xG_silentMinutes, .int xG_toldCount, .long xG_seedNow], oO aW1 2 [.ref aP, .int xW1_row, .int xW1_quiets, .int xW1_place, .int xW1_turned], oJ aKE iKE 2 xKE] sz [.ref aG, .int j1]) (kQi D [(iKE, .long)] [oO aG 3 [.ref aT, .ref aP, .ref aW1, .ref aW2, .ref aAC, .int xG_actCount, .ref aKE, .int xG_heardMinutes, .int xG_silentMinutes, .int xG_toldCount, .long xG_seedNow], oO aW1 2 [.ref aP, .int xW1_row, .int xW1_quiets, .int xW1_place, .int xW1_turned], oJ aKE iKE 2 xKE] sz [oO aG 3 [.ref aT, .ref aP, .ref aW1, .ref aW2, .ref aAC, .int z.2.1, .ref aKE, .int xG_heardMinutes, .int xG_silentMinutes, .int xG_toldCount, .long xG_seedNow], oO aW1 2 [.ref aP, .int z.2.2.1, .int z.2.2.2.1, .int z.2.2.2.2, .int xW1_turned], oJ aKE iKE 2 xKE] z.1) 0 0 (va_A [oO aG 3 [.ref aT, .ref aP, .ref aW1, .ref aW2, .ref aAC, .int xG_actCount, .ref aKE, .int xG_heardMinutes, .int xG_silentMinutes, .int xG_toldCount, .long xG_seedNow], oO aW1 2 [.ref aP, .int xW1_row, .int xW1_quiets, .int xW1_place, .int xW1_turned], oJ aKE iKE 2 xKE] sz) := by
  refine kMet_i (own := RX4) z (fun u => u.1) (fun u => [oO aG 3 [.ref aT, .ref aP, .ref aW1, .ref aW2, .ref aAC, .int u.2.1, .ref aKE, .int xG_heardMinutes, .int xG_silentMinutes, .int xG_toldCount, .long xG_seedNow], oO aW1 2 [.ref aP, .int u.2.2.1, .int u.2.2.2.1, .int u.2.2.2.2, .int xW1_turned], oJ aKE iKE 2 xKE]) rfl (by decide) rfl ⟨rfl, rfl⟩ (Nat.le_of_ble_eq_true rfl) ?_
  intro X hXl hXD hC hQ
  subst hXl
  subst hXD
  change kG X 0 [(0, .ref aG), (1, .int j1)] [] [oO aG 3 [.ref aT, .ref aP, .ref aW1, .ref aW2, .ref aAC, .int xG_actCount, .ref aKE, .int xG_heardMinutes, .int xG_silentMinutes, .int xG_toldCount, .long xG_seedNow], oO aW1 2 [.ref aP, .int xW1_row, .int xW1_quiets, .int xW1_place, .int xW1_turned], oJ aKE iKE 2 xKE]
  have hinX4 : ∀ w ∈ wsX40, w ∈ wsX4_again := fun _ h => List.mem_cons_of_mem _ (List.mem_append_left _ (List.mem_append_right _ h))
  unfold fX4_again at hf
  refine g_iload_n hC 1 dX4_again_0 rfl rfl ?_
  refine g_iconst (v := (0 : Int32)) hC dX4_again_1 ci_0 ?_
  refine g_aload_n hC 0 dX4_again_2 rfl rfl ?_
  refine g_get (C := RX4) (T := TX4) (N := 11) (v := .ref aKE) hC hinX4 0 6 rfl rfl (by decide) (List.mem_of_getElem? (i := 1) rfl) rfl dX4_again_3 ?_
  refine g_alen (v := (2 : Int32)) hC 2 0 rfl rfl cn_2 dX4_again_6 ?_
  refine g_iconst (v := (1 : Int32)) hC dX4_again_7 ci_1 ?_
  refine g_isub hC dX4_again_8 ?_
  obtain ⟨z9, hz9, hf⟩ := gd_b hf
  refine g_callSi (wr := [oO aG 3 [.ref aT, .ref aP, .ref aW1, .ref aW2, .ref aAC, .int xG_actCount, .ref aKE, .int xG_heardMinutes, .int xG_silentMinutes, .int xG_toldCount, .long xG_seedNow], oO aW1 2 [.ref aP, .int xW1_row, .int xW1_quiets, .int xW1_place, .int xW1_turned], oJ aKE iKE 2 xKE]) (wn := [oO aG 3 [.ref aT, .ref aP, .ref aW1, .ref aW2, .ref aAC, .int xG_actCount, .ref aKE, .int xG_heardMinutes, .int xG_silentMinutes, .int xG_toldCount, .long xG_seedNow], oO aW1 2 [.ref aP, .int xW1_row, .int xW1_quiets, .int xW1_place, .int xW1_turned], oJ aKE iKE 2 xKE]) hC [.int j1, .int (0 : Int32), .int ((2 : Int32) - (1 : Int32))] (cX4_within_m (kl X) (kD X) j1 (0 : Int32) ((2 : Int32) - (1 : Int32)) z9 hz9) gX4_again_X4_within rfl kyX4_within rfl [] [0, 1, 2] [] [0, 1, 2] rfl rfl rfl rfl (by decide) rfl rfl rfl ⟨rfl, rfl⟩ ⟨Nat.le_of_ble_eq_true rfl, Nat.le_of_ble_eq_true rfl⟩ (Nat.le_of_ble_eq_true rfl) rfl dX4_again_9 ?_
  refine g_if_ne (tgt := 17) hC dX4_again_12 (by decide) (fun hc => ?_) (fun hc => ?_)
  · replace hf := gd_f hc hf
    refine g_aload_n hC 0 dX4_again_17 rfl rfl ?_
    refine g_get (C := RX4) (T := TX4) (N := 11) (v := .ref aKE) hC hinX4 0 6 rfl rfl (by decide) (List.mem_of_getElem? (i := 1) rfl) rfl dX4_again_18 ?_
    refine g_iload_n hC 1 dX4_again_21 rfl rfl ?_
    obtain ⟨hg, hf⟩ := gd_ga hf
    refine g_lald hC 2 0 hg rfl rfl dX4_again_22 ?_
    refine g_ldc2 (v := (-1 : Int64)) hC dX4_again_23 (List.mem_of_getElem? (i := 2) rfl) ?_
    refine g_lcmp hC dX4_again_26 ?_
    refine g_if_ne (tgt := 33) hC dX4_again_27 (by decide) (fun hc => ?_) (fun hc => ?_)
    · replace hf := gd_f hc hf
      refine g_aload_n hC 0 dX4_again_33 rfl rfl ?_
      refine g_get (C := RX4) (T := TX4) (N := 11) (v := .ref aW1) hC hinX4 0 2 rfl rfl (by decide) (List.mem_of_getElem? (i := 3) rfl) rfl dX4_again_34 ?_
      refine g_aload_n hC 0 dX4_again_37 rfl rfl ?_
      refine g_get (C := RX4) (T := TX4) (N := 11) (v := .ref aKE) hC hinX4 0 6 rfl rfl (by decide) (List.mem_of_getElem? (i := 1) rfl) rfl dX4_again_38 ?_
      refine g_iload_n hC 1 dX4_again_41 rfl rfl ?_
      obtain ⟨hg, hf⟩ := gd_ga hf
      refine g_lald hC 2 0 hg rfl rfl dX4_again_42 ?_
      obtain ⟨z43, hz43, hf⟩ := gd_b hf
      refine g_callVv (wr := [oO aG 3 [.ref aT, .ref aP, .ref aW1, .ref aW2, .ref aAC, .int xG_actCount, .ref aKE, .int xG_heardMinutes, .int xG_silentMinutes, .int xG_toldCount, .long xG_seedNow], oJ aKE iKE 2 xKE]) (wn := [oO aG 3 [.ref aT, .ref aP, .ref aW1, .ref aW2, .ref aAC, .int xG_actCount, .ref aKE, .int xG_heardMinutes, .int xG_silentMinutes, .int xG_toldCount, .long xG_seedNow], oO aW1 2 [.ref aP, .int z43.1, .int z43.2.1, .int z43.2.2, .int xW1_turned], oJ aKE iKE 2 xKE]) hC [.long (xKE j1.toNatClampNeg)] (cX3_become_m (kl X) (kD X) aP aW1 xW1_row xW1_quiets xW1_place xW1_turned (xKE j1.toNatClampNeg) z43 hz43) gX4_again_X3_become rfl kyX3_become rfl rfl rfl (q0 := 0) rfl [1] [0, 2] [] [0, 2, 1] rfl rfl rfl rfl (by decide) rfl rfl rfl ⟨rfl, rfl⟩ ⟨Nat.le_of_ble_eq_true rfl, Nat.le_of_ble_eq_true rfl⟩ (Nat.le_of_ble_eq_true rfl) rfl dX4_again_43 ?_
      refine g_aload_n hC 0 dX4_again_46 rfl rfl ?_
      refine g_iconst (v := (0 : Int32)) hC dX4_again_47 ci_0 ?_
      refine g_put (C := RX4) (T := TX4) (N := 11) (ty := .int) (ws' := [oO aG 3 [.ref aT, .ref aP, .ref aW1, .ref aW2, .ref aAC, .int (0 : Int32), .ref aKE, .int xG_heardMinutes, .int xG_silentMinutes, .int xG_toldCount, .long xG_seedNow], oO aW1 2 [.ref aP, .int z43.1, .int z43.2.1, .int z43.2.2, .int xW1_turned], oJ aKE iKE 2 xKE]) hC tyX4_ok nmX4 hinX4 0 5 rfl rfl (by decide) (List.mem_of_getElem? (i := 4) rfl) rfl rfl rfl rfl (Nat.le_of_ble_eq_true rfl) dX4_again_48 rfl ?_
      refine g_aload_n hC 0 dX4_again_51 rfl rfl ?_
      refine g_get (C := RX4) (T := TX4) (N := 11) (v := .ref aW1) hC hinX4 0 2 rfl rfl (by decide) (List.mem_of_getElem? (i := 3) rfl) rfl dX4_again_52 ?_
      obtain ⟨z55, hz55, hf⟩ := gd_b hf
      refine g_callVi (wr := [oO aG 3 [.ref aT, .ref aP, .ref aW1, .ref aW2, .ref aAC, .int (0 : Int32), .ref aKE, .int xG_heardMinutes, .int xG_silentMinutes, .int xG_toldCount, .long xG_seedNow], oJ aKE iKE 2 xKE]) (wn := [oO aG 3 [.ref aT, .ref aP, .ref aW1, .ref aW2, .ref aAC, .int (0 : Int32), .ref aKE, .int xG_heardMinutes, .int xG_silentMinutes, .int xG_toldCount, .long xG_seedNow], oO aW1 2 [.ref aP, .int z43.1, .int z43.2.1, .int z43.2.2, .int xW1_turned], oJ aKE iKE 2 xKE]) hC [] (cX3_place_m (kl X) (kD X) aP aW1 z43.1 z43.2.1 z43.2.2 xW1_turned z55 hz55) gX4_again_X3_place rfl kyX3_place rfl rfl rfl (q0 := 0) rfl [1] [0, 2] [] [0, 2, 1] rfl rfl rfl rfl (by decide) rfl rfl rfl ⟨rfl, rfl⟩ ⟨Nat.le_of_ble_eq_true rfl, Nat.le_of_ble_eq_true rfl⟩ (Nat.le_of_ble_eq_true rfl) rfl dX4_again_55 ?_
      exact hQ (z55, (0 : Int32), z43.1, z43.2.1, z43.2.2) _ _ (gd_s hf) dX4_again_58
    · replace hf := gd_t hc hf
      refine g_bipush (v := (-3 : Int32)) hC dX4_again_30 cb_m3 ?_
      exact hQ ((-3 : Int32), xG_actCount, xW1_row, xW1_quiets, xW1_place) _ _ (gd_s hf) dX4_again_32
  · replace hf := gd_t hc hf
    refine g_iconst (v := (-1 : Int32)) hC dX4_again_15 ci_m1 ?_
    exact hQ ((-1 : Int32), xG_actCount, xW1_row, xW1_quiets, xW1_place) _ _ (gd_s hf) dX4_again_16
