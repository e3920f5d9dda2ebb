theorem kyX5_in : yX5_in.cls ≠ "java/lang/invoke/MethodHandle" ∧ yX5_in.cls ≠ "java/lang/invoke/VarHandle" ∧ (parseMethodDescriptor yX5_in.desc).map (fun d => d.parameters.length) = some 3 := by decide +kernel
set_option maxHeartbeats 4000000 in
set_option maxRecDepth 100000 in
theorem cX5_in_m (l : Launch) (D : va_G)  (j0 : Int64) (j2 : Int64) (j4 : Int64) (z : Int32) (hf : fX5_in j0 j2 j4 = some z) : ∀ sz : Nat, Met l yX5_in wsX5_in ({ frames := 0, cells := 0, slots := 0, locals := 0 } : Room) (kPre D [] [] sz [.long j0, .long j2, .long j4]) (kQi D [] [] sz [] z) 0 0 (va_A [] sz) := by
  refine kMet_z (own := RX5) z (fun u => u) (fun u => []) rfl (by decide) rfl ⟨rfl, rfl⟩ (Nat.le_of_ble_eq_true rfl) ?_
  intro X hXl hXD hC hQ
  subst hXl
  subst hXD
  change kG X 0 [(0, .long j0), (2, .long j2), (4, .long j4)] [] []
  unfold fX5_in at hf
  refine g_lload_n hC 0 dX5_in_0 rfl rfl ?_
  refine g_lload_n hC 1 dX5_in_1 rfl rfl ?_
  refine g_lcmp hC dX5_in_2 ?_
  refine g_if_lt (tgt := 17) hC dX5_in_3 (by decide) (fun hc => ?_) (fun hc => ?_)
  · replace hf := gd_t hc hf
    refine g_iconst (v := (0 : Int32)) hC dX5_in_17 ci_0 ?_
    exact hQ ((0 : Int32)) _ _ (gd_s hf) (nz_of (Or.inl rfl)) dX5_in_18
  · replace hf := gd_f hc hf
    refine g_lload_n hC 0 dX5_in_6 rfl rfl ?_
    refine g_lload hC 2 dX5_in_7 rfl ?_
    refine g_lcmp hC dX5_in_9 ?_
    refine g_if_gt (tgt := 17) hC dX5_in_10 (by decide) (fun hc => ?_) (fun hc => ?_)
    · replace hf := gd_t hc hf
      refine g_iconst (v := (0 : Int32)) hC dX5_in_17 ci_0 ?_
      exact hQ ((0 : Int32)) _ _ (gd_s hf) (nz_of (Or.inl rfl)) dX5_in_18
    · replace hf := gd_f hc hf
      refine g_iconst (v := (1 : Int32)) hC dX5_in_13 ci_1 ?_
      refine g_goto (tgt := 18) hC dX5_in_14 (by decide) ?_
      exact hQ ((1 : Int32)) _ _ (gd_s hf) (nz_of (Or.inr rfl)) dX5_in_18
theorem kyX5_write : yX5_write.cls = RX5 ∧ yX5_write.cls ≠ "java/lang/invoke/MethodHandle" ∧ yX5_write.cls ≠ "java/lang/invoke/VarHandle" ∧ (parseMethodDescriptor yX5_write.desc).map (fun d => d.parameters.length) = some 1 := by decide +kernel
set_option maxHeartbeats 4000000 in
set_option maxRecDepth 100000 in
theorem cX5_write_m (l : Launch) (D : va_G) (aM aMtext aMnerve aMkind aMreadNerve aMreadKind aMpage aMtrial aMbook aMkept aMisKept aMtoldMinute aMtoldHeard aMworth : Nat) (iMtext : ClassId) (xM_thrown : Int32) (xM_textSize : Int32) (xM_place : Int32) (xM_walkers : Int32) (xM_light : Int32) (xM_water : Int32) (xM_readWalkers : Int32) (xM_readLight : Int32) (xM_readWater : Int32) (xM_acts : Int32) (xM_told : Int32) (xM_seed : Int64) (xM_orderBest : Int32) (xM_orderMany : Int32) (xM_turned : Int32) (xMtext : Nat → Int32) (j1 : Int32) (z : Int32 × Int32 × Int32 × (Nat → Int32)) (hf : fX5_write j1 xM_thrown xM_textSize xMtext = some z) : ∀ sz : Nat, Met l yX5_write wsX5_write ({ frames := 1, cells := 0, slots := 0, locals := 25 } : Room) (kPre D [(iMtext, .int)] [oO aM 4 [.int xM_thrown, .ref aMtext, .int xM_textSize, .int xM_place, .int xM_walkers, .int xM_light, .int xM_water, .ref aMnerve, .ref aMkind, .int xM_readWalkers, .int xM_readLight, .int xM_readWater, .ref aMreadNerve, .ref aMreadKind, .ref aMpage, .ref aMtrial, .ref aMbook, .int xM_acts, .ref aMkept, .ref aMisKept, .int xM_told, .ref aMtoldMinute, .ref aMtoldHeard, .long xM_seed, .int xM_orderBest, .int xM_orderMany, .ref aMworth, .int xM_turned], oI aMtext iMtext 32 xMtext] sz [.ref aM, .int j1]) (kQi D [(iMtext, .int)] [oO aM 4 [.int xM_thrown, .ref aMtext, .int xM_textSize, .int xM_place, .int xM_walkers, .int xM_light, .int xM_water, .ref aMnerve, .ref aMkind, .int xM_readWalkers, .int xM_readLight, .int xM_readWater, .ref aMreadNerve, .ref aMreadKind, .ref aMpage, .ref aMtrial, .ref aMbook, .int xM_acts, .ref aMkept, .ref aMisKept, .int xM_told, .ref aMtoldMinute, .ref aMtoldHeard, .long xM_seed, .int xM_orderBest, .int xM_orderMany, .ref aMworth, .int xM_turned], oI aMtext iMtext 32 xMtext] sz [oO aM 4 [.int z.2.1, .ref aMtext, .int z.2.2.1, .int xM_place, .int xM_walkers, .int xM_light, .int xM_water, .ref aMnerve, .ref aMkind, .int xM_readWalkers, .int xM_readLight, .int xM_readWater, .ref aMreadNerve, .ref aMreadKind, .ref aMpage, .ref aMtrial, .ref aMbook, .int xM_acts, .ref aMkept, .ref aMisKept, .int xM_told, .ref aMtoldMinute, .ref aMtoldHeard, .long xM_seed, .int xM_orderBest, .int xM_orderMany, .ref aMworth, .int xM_turned], oI aMtext iMtext 32 z.2.2.2] z.1) 0 0 (va_A [oO aM 4 [.int xM_thrown, .ref aMtext, .int xM_textSize, .int xM_place, .int xM_walkers, .int xM_light, .int xM_water, .ref aMnerve, .ref aMkind, .int xM_readWalkers, .int xM_readLight, .int xM_readWater, .ref aMreadNerve, .ref aMreadKind, .ref aMpage, .ref aMtrial, .ref aMbook, .int xM_acts, .ref aMkept, .ref aMisKept, .int xM_told, .ref aMtoldMinute, .ref aMtoldHeard, .long xM_seed, .int xM_orderBest, .int xM_orderMany, .ref aMworth, .int xM_turned], oI aMtext iMtext 32 xMtext] sz) := by
  refine kMet_i (own := RX5) z (fun u => u.1) (fun u => [oO aM 4 [.int u.2.1, .ref aMtext, .int u.2.2.1, .int xM_place, .int xM_walkers, .int xM_light, .int xM_water, .ref aMnerve, .ref aMkind, .int xM_readWalkers, .int xM_readLight, .int xM_readWater, .ref aMreadNerve, .ref aMreadKind, .ref aMpage, .ref aMtrial, .ref aMbook, .int xM_acts, .ref aMkept, .ref aMisKept, .int xM_told, .ref aMtoldMinute, .ref aMtoldHeard, .long xM_seed, .int xM_orderBest, .int xM_orderMany, .ref aMworth, .int xM_turned], oI aMtext iMtext 32 u.2.2.2]) rfl (by decide) rfl ⟨rfl, rfl⟩ (Nat.le_of_ble_eq_true rfl) ?_
  intro X hXl hXD hC hQ
  subst hXl
  subst hXD
  change kG X 0 [(0, .ref aM), (1, .int j1)] [] [oO aM 4 [.int xM_thrown, .ref aMtext, .int xM_textSize, .int xM_place, .int xM_walkers, .int xM_light, .int xM_water, .ref aMnerve, .ref aMkind, .int xM_readWalkers, .int xM_readLight, .int xM_readWater, .ref aMreadNerve, .ref aMreadKind, .ref aMpage, .ref aMtrial, .ref aMbook, .int xM_acts, .ref aMkept, .ref aMisKept, .int xM_told, .ref aMtoldMinute, .ref aMtoldHeard, .long xM_seed, .int xM_orderBest, .int xM_orderMany, .ref aMworth, .int xM_turned], oI aMtext iMtext 32 xMtext]
  have hinX5 : ∀ w ∈ wsX50, w ∈ wsX5_write := fun _ h => List.mem_cons_of_mem _ (List.mem_append_right _ h)
  unfold fX5_write at hf
  refine g_aload_n hC 0 dX5_write_0 rfl rfl ?_
  refine g_iconst (v := (0 : Int32)) hC dX5_write_1 ci_0 ?_
  refine g_put (C := RX5) (T := TX5) (N := 28) (ty := .int) (ws' := [oO aM 4 [.int (0 : Int32), .ref aMtext, .int xM_textSize, .int xM_place, .int xM_walkers, .int xM_light, .int xM_water, .ref aMnerve, .ref aMkind, .int xM_readWalkers, .int xM_readLight, .int xM_readWater, .ref aMreadNerve, .ref aMreadKind, .ref aMpage, .ref aMtrial, .ref aMbook, .int xM_acts, .ref aMkept, .ref aMisKept, .int xM_told, .ref aMtoldMinute, .ref aMtoldHeard, .long xM_seed, .int xM_orderBest, .int xM_orderMany, .ref aMworth, .int xM_turned], oI aMtext iMtext 32 xMtext]) hC tyX5_ok nmX5 hinX5 0 0 rfl rfl (by decide) (List.mem_of_getElem? (i := 1) rfl) rfl rfl rfl rfl (Nat.le_of_ble_eq_true rfl) dX5_write_2 rfl ?_
  refine g_iload_n hC 1 dX5_write_5 rfl rfl ?_
  refine g_i2l hC dX5_write_6 ?_
  refine g_lconst (v := (0 : Int64)) hC dX5_write_7 rfl ?_
  refine g_ldc2 (v := (255 : Int64)) hC dX5_write_8 (List.mem_of_getElem? (i := 2) rfl) ?_
  obtain ⟨z11, hz11, hf⟩ := gd_b hf
  refine g_callSi (wr := [oO aM 4 [.int (0 : Int32), .ref aMtext, .int xM_textSize, .int xM_place, .int xM_walkers, .int xM_light, .int xM_water, .ref aMnerve, .ref aMkind, .int xM_readWalkers, .int xM_readLight, .int xM_readWater, .ref aMreadNerve, .ref aMreadKind, .ref aMpage, .ref aMtrial, .ref aMbook, .int xM_acts, .ref aMkept, .ref aMisKept, .int xM_told, .ref aMtoldMinute, .ref aMtoldHeard, .long xM_seed, .int xM_orderBest, .int xM_orderMany, .ref aMworth, .int xM_turned], oI aMtext iMtext 32 xMtext]) (wn := [oO aM 4 [.int (0 : Int32), .ref aMtext, .int xM_textSize, .int xM_place, .int xM_walkers, .int xM_light, .int xM_water, .ref aMnerve, .ref aMkind, .int xM_readWalkers, .int xM_readLight, .int xM_readWater, .ref aMreadNerve, .ref aMreadKind, .ref aMpage, .ref aMtrial, .ref aMbook, .int xM_acts, .ref aMkept, .ref aMisKept, .int xM_told, .ref aMtoldMinute, .ref aMtoldHeard, .long xM_seed, .int xM_orderBest, .int xM_orderMany, .ref aMworth, .int xM_turned], oI aMtext iMtext 32 xMtext]) hC [.long j1.toInt64, .long (0 : Int64), .long (255 : Int64)] (cX5_in_m (kl X) (kD X) j1.toInt64 (0 : Int64) (255 : Int64) z11 hz11) gX5_write_X5_in rfl kyX5_in rfl [] [0, 1] [] [0, 1] rfl rfl rfl rfl (by decide) rfl rfl rfl ⟨rfl, rfl⟩ ⟨Nat.le_of_ble_eq_true rfl, Nat.le_of_ble_eq_true rfl⟩ (Nat.le_of_ble_eq_true rfl) rfl dX5_write_11 ?_
  refine g_if_ne (tgt := 20) hC dX5_write_14 (by decide) (fun hc => ?_) (fun hc => ?_)
  · replace hf := gd_f hc hf
    refine g_aload_n hC 0 dX5_write_20 rfl rfl ?_
    refine g_get (C := RX5) (T := TX5) (N := 28) (v := .int xM_textSize) hC hinX5 0 2 rfl rfl (by decide) (List.mem_of_getElem? (i := 3) rfl) rfl dX5_write_21 ?_
    refine g_bipush (v := (32 : Int32)) hC dX5_write_24 cb_32 ?_
    refine g_icmp_ne (tgt := 32) hC dX5_write_26 (by decide) (fun hc => ?_) (fun hc => ?_)
    · replace hf := gd_f hc hf
      refine g_aload_n hC 0 dX5_write_32 rfl rfl ?_
      refine g_get (C := RX5) (T := TX5) (N := 28) (v := .ref aMtext) hC hinX5 0 1 rfl rfl (by decide) (List.mem_of_getElem? (i := 4) rfl) rfl dX5_write_33 ?_
      refine g_aload_n hC 0 dX5_write_36 rfl rfl ?_
      refine g_get (C := RX5) (T := TX5) (N := 28) (v := .int xM_textSize) hC hinX5 0 2 rfl rfl (by decide) (List.mem_of_getElem? (i := 3) rfl) rfl dX5_write_37 ?_
      refine g_iload_n hC 1 dX5_write_40 rfl rfl ?_
      obtain ⟨hg, hf⟩ := gd_ga hf
      refine g_iast (ws' := [oO aM 4 [.int (0 : Int32), .ref aMtext, .int xM_textSize, .int xM_place, .int xM_walkers, .int xM_light, .int xM_water, .ref aMnerve, .ref aMkind, .int xM_readWalkers, .int xM_readLight, .int xM_readWater, .ref aMreadNerve, .ref aMreadKind, .ref aMpage, .ref aMtrial, .ref aMbook, .int xM_acts, .ref aMkept, .ref aMisKept, .int xM_told, .ref aMtoldMinute, .ref aMtoldHeard, .long xM_seed, .int xM_orderBest, .int xM_orderMany, .ref aMworth, .int xM_turned], oI aMtext iMtext 32 (upd xMtext xM_textSize.toNatClampNeg j1)]) hC 1 0 hg rfl rfl dX5_write_41 rfl ?_
      refine g_aload_n hC 0 dX5_write_42 rfl rfl ?_
      refine g_dup hC dX5_write_43 rfl ?_
      refine g_get (C := RX5) (T := TX5) (N := 28) (v := .int xM_textSize) hC hinX5 0 2 rfl rfl (by decide) (List.mem_of_getElem? (i := 3) rfl) rfl dX5_write_44 ?_
      refine g_iconst (v := (1 : Int32)) hC dX5_write_47 ci_1 ?_
      refine g_iadd hC dX5_write_48 ?_
      refine g_put (C := RX5) (T := TX5) (N := 28) (ty := .int) (ws' := [oO aM 4 [.int (0 : Int32), .ref aMtext, .int (xM_textSize + (1 : Int32)), .int xM_place, .int xM_walkers, .int xM_light, .int xM_water, .ref aMnerve, .ref aMkind, .int xM_readWalkers, .int xM_readLight, .int xM_readWater, .ref aMreadNerve, .ref aMreadKind, .ref aMpage, .ref aMtrial, .ref aMbook, .int xM_acts, .ref aMkept, .ref aMisKept, .int xM_told, .ref aMtoldMinute, .ref aMtoldHeard, .long xM_seed, .int xM_orderBest, .int xM_orderMany, .ref aMworth, .int xM_turned], oI aMtext iMtext 32 (upd xMtext xM_textSize.toNatClampNeg j1)]) hC tyX5_ok nmX5 hinX5 0 2 rfl rfl (by decide) (List.mem_of_getElem? (i := 3) rfl) rfl rfl rfl rfl (Nat.le_of_ble_eq_true rfl) dX5_write_49 rfl ?_
      refine g_aload_n hC 0 dX5_write_52 rfl rfl ?_
      refine g_get (C := RX5) (T := TX5) (N := 28) (v := .int (xM_textSize + (1 : Int32))) hC hinX5 0 2 rfl rfl (by decide) (List.mem_of_getElem? (i := 3) rfl) rfl dX5_write_53 ?_
      exact hQ ((xM_textSize + (1 : Int32)), (0 : Int32), (xM_textSize + (1 : Int32)), (upd xMtext xM_textSize.toNatClampNeg j1)) _ _ (gd_s hf) dX5_write_56
    · replace hf := gd_t hc hf
      refine g_bipush (v := (-4 : Int32)) hC dX5_write_29 cb_m4 ?_
      exact hQ ((-4 : Int32), (0 : Int32), xM_textSize, xMtext) _ _ (gd_s hf) dX5_write_31
  · replace hf := gd_t hc hf
    refine g_bipush (v := (-2 : Int32)) hC dX5_write_17 cb_m2 ?_
    exact hQ ((-2 : Int32), (0 : Int32), xM_textSize, xMtext) _ _ (gd_s hf) dX5_write_19
theorem kyX5_wipe : yX5_wipe.cls = RX5 ∧ yX5_wipe.cls ≠ "java/lang/invoke/MethodHandle" ∧ yX5_wipe.cls ≠ "java/lang/invoke/VarHandle" ∧ (parseMethodDescriptor yX5_wipe.desc).map (fun d => d.parameters.length) = some 0 := by decide +kernel
set_option maxHeartbeats 4000000 in
set_option maxRecDepth 100000 in
theorem cX5_wipe_m (l : Launch) (D : va_G) (aM aMtext aMnerve aMkind aMreadNerve aMreadKind aMpage aMtrial aMbook aMkept aMisKept aMtoldMinute aMtoldHeard aMworth : Nat) (xM_thrown : Int32) (xM_textSize : Int32) (xM_place : Int32) (xM_walkers : Int32) (xM_light : Int32) (xM_water : Int32) (xM_readWalkers : Int32) (xM_readLight : Int32) (xM_readWater : Int32) (xM_acts : Int32) (xM_told : Int32) (xM_seed : Int64) (xM_orderBest : Int32) (xM_orderMany : Int32) (xM_turned : Int32)  (z : Int32 × Int32 × Int32) (hf : fX5_wipe xM_thrown xM_textSize = some z) : ∀ sz : Nat, Met l yX5_wipe wsX5_wipe ({ frames := 0, cells := 0, slots := 0, locals := 0 } : Room) (kPre D [] [oO aM 4 [.int xM_thrown, .ref aMtext, .int xM_textSize, .int xM_place, .int xM_walkers, .int xM_light, .int xM_water, .ref aMnerve, .ref aMkind, .int xM_readWalkers, .int xM_readLight, .int xM_readWater, .ref aMreadNerve, .ref aMreadKind, .ref aMpage, .ref aMtrial, .ref aMbook, .int xM_acts, .ref aMkept, .ref aMisKept, .int xM_told, .ref aMtoldMinute, .ref aMtoldHeard, .long xM_seed, .int xM_orderBest, .int xM_orderMany, .ref aMworth, .int xM_turned]] sz [.ref aM]) (kQi D [] [oO aM 4 [.int xM_thrown, .ref aMtext, .int xM_textSize, .int xM_place, .int xM_walkers, .int xM_light, .int xM_water, .ref aMnerve, .ref aMkind, .int xM_readWalkers, .int xM_readLight, .int xM_readWater, .ref aMreadNerve, .ref aMreadKind, .ref aMpage, .ref aMtrial, .ref aMbook, .int xM_acts, .ref aMkept, .ref aMisKept, .int xM_told, .ref aMtoldMinute, .ref aMtoldHeard, .long xM_seed, .int xM_orderBest, .int xM_orderMany, .ref aMworth, .int xM_turned]] sz [oO aM 4 [.int z.2.1, .ref aMtext, .int z.2.2, .int xM_place, .int xM_walkers, .int xM_light, .int xM_water, .ref aMnerve, .ref aMkind, .int xM_readWalkers, .int xM_readLight, .int xM_readWater, .ref aMreadNerve, .ref aMreadKind, .ref aMpage, .ref aMtrial, .ref aMbook, .int xM_acts, .ref aMkept, .ref aMisKept, .int xM_told, .ref aMtoldMinute, .ref aMtoldHeard, .long xM_seed, .int xM_orderBest, .int xM_orderMany, .ref aMworth, .int xM_turned]] z.1) 0 0 (va_A [oO aM 4 [.int xM_thrown, .ref aMtext, .int xM_textSize, .int xM_place, .int xM_walkers, .int xM_light, .int xM_water, .ref aMnerve, .ref aMkind, .int xM_readWalkers, .int xM_readLight, .int xM_readWater, .ref aMreadNerve, .ref aMreadKind, .ref aMpage, .ref aMtrial, .ref aMbook, .int xM_acts, .ref aMkept, .ref aMisKept, .int xM_told, .ref aMtoldMinute, .ref aMtoldHeard, .long xM_seed, .int xM_orderBest, .int xM_orderMany, .ref aMworth, .int xM_turned]] sz) := by
  refine kMet_i (own := RX5) z (fun u => u.1) (fun u => [oO aM 4 [.int u.2.1, .ref aMtext, .int u.2.2, .int xM_place, .int xM_walkers, .int xM_light, .int xM_water, .ref aMnerve, .ref aMkind, .int xM_readWalkers, .int xM_readLight, .int xM_readWater, .ref aMreadNerve, .ref aMreadKind, .ref aMpage, .ref aMtrial, .ref aMbook, .int xM_acts, .ref aMkept, .ref aMisKept, .int xM_told, .ref aMtoldMinute, .ref aMtoldHeard, .long xM_seed, .int xM_orderBest, .int xM_orderMany, .ref aMworth, .int xM_turned]]) rfl (by decide) rfl ⟨rfl, rfl⟩ (Nat.le_of_ble_eq_true rfl) ?_
  intro X hXl hXD hC hQ
  subst hXl
  subst hXD
  change kG X 0 [(0, .ref aM)] [] [oO aM 4 [.int xM_thrown, .ref aMtext, .int xM_textSize, .int xM_place, .int xM_walkers, .int xM_light, .int xM_water, .ref aMnerve, .ref aMkind, .int xM_readWalkers, .int xM_readLight, .int xM_readWater, .ref aMreadNerve, .ref aMreadKind, .ref aMpage, .ref aMtrial, .ref aMbook, .int xM_acts, .ref aMkept, .ref aMisKept, .int xM_told, .ref aMtoldMinute, .ref aMtoldHeard, .long xM_seed, .int xM_orderBest, .int xM_orderMany, .ref aMworth, .int xM_turned]]
  have hinX5 : ∀ w ∈ wsX50, w ∈ wsX5_wipe := fun _ h => List.mem_cons_of_mem _ (List.mem_append_right _ h)
  unfold fX5_wipe at hf
  refine g_aload_n hC 0 dX5_wipe_0 rfl rfl ?_
  refine g_iconst (v := (0 : Int32)) hC dX5_wipe_1 ci_0 ?_
  refine g_put (C := RX5) (T := TX5) (N := 28) (ty := .int) (ws' := [oO aM 4 [.int (0 : Int32), .ref aMtext, .int xM_textSize, .int xM_place, .int xM_walkers, .int xM_light, .int xM_water, .ref aMnerve, .ref aMkind, .int xM_readWalkers, .int xM_readLight, .int xM_readWater, .ref aMreadNerve, .ref aMreadKind, .ref aMpage, .ref aMtrial, .ref aMbook, .int xM_acts, .ref aMkept, .ref aMisKept, .int xM_told, .ref aMtoldMinute, .ref aMtoldHeard, .long xM_seed, .int xM_orderBest, .int xM_orderMany, .ref aMworth, .int xM_turned]]) hC tyX5_ok nmX5 hinX5 0 0 rfl rfl (by decide) (List.mem_of_getElem? (i := 1) rfl) rfl rfl rfl rfl (Nat.le_of_ble_eq_true rfl) dX5_wipe_2 rfl ?_
  refine g_aload_n hC 0 dX5_wipe_5 rfl rfl ?_
  refine g_get (C := RX5) (T := TX5) (N := 28) (v := .int xM_textSize) hC hinX5 0 2 rfl rfl (by decide) (List.mem_of_getElem? (i := 2) rfl) rfl dX5_wipe_6 ?_
  refine g_istore_n (lv' := [(1, .int xM_textSize), (0, .ref aM)]) hC dX5_wipe_9 rfl (by decide) rfl ?_
  refine g_aload_n hC 1 dX5_wipe_10 rfl rfl ?_
  refine g_iconst (v := (0 : Int32)) hC dX5_wipe_11 ci_0 ?_
  refine g_put (C := RX5) (T := TX5) (N := 28) (ty := .int) (ws' := [oO aM 4 [.int (0 : Int32), .ref aMtext, .int (0 : Int32), .int xM_place, .int xM_walkers, .int xM_light, .int xM_water, .ref aMnerve, .ref aMkind, .int xM_readWalkers, .int xM_readLight, .int xM_readWater, .ref aMreadNerve, .ref aMreadKind, .ref aMpage, .ref aMtrial, .ref aMbook, .int xM_acts, .ref aMkept, .ref aMisKept, .int xM_told, .ref aMtoldMinute, .ref aMtoldHeard, .long xM_seed, .int xM_orderBest, .int xM_orderMany, .ref aMworth, .int xM_turned]]) hC tyX5_ok nmX5 hinX5 0 2 rfl rfl (by decide) (List.mem_of_getElem? (i := 2) rfl) rfl rfl rfl rfl (Nat.le_of_ble_eq_true rfl) dX5_wipe_12 rfl ?_
  refine g_iload_n hC 0 dX5_wipe_15 rfl rfl ?_
  exact hQ (xM_textSize, (0 : Int32), (0 : Int32)) _ _ (gd_s hf) dX5_wipe_16
theorem kyX5_figure : yX5_figure.cls = RX5 ∧ yX5_figure.cls ≠ "java/lang/invoke/MethodHandle" ∧ yX5_figure.cls ≠ "java/lang/invoke/VarHandle" ∧ (parseMethodDescriptor yX5_figure.desc).map (fun d => d.parameters.length) = some 2 := by decide +kernel
set_option maxHeartbeats 4000000 in
set_option maxRecDepth 100000 in
theorem cX5_figure_m (l : Launch) (D : va_G) (aM aMtext aMnerve aMkind aMreadNerve aMreadKind aMpage aMtrial aMbook aMkept aMisKept aMtoldMinute aMtoldHeard aMworth : Nat) (iMtext : ClassId) (xM_thrown : Int32) (xM_textSize : Int32) (xM_place : Int32) (xM_walkers : Int32) (xM_light : Int32) (xM_water : Int32) (xM_readWalkers : Int32) (xM_readLight : Int32) (xM_readWater : Int32) (xM_acts : Int32) (xM_told : Int32) (xM_seed : Int64) (xM_orderBest : Int32) (xM_orderMany : Int32) (xM_turned : Int32) (xMtext : Nat → Int32) (j1 : Int32) (j2 : Int32) (z : Int32 × Int32) (hf : fX5_figure j1 j2 xM_textSize xM_place xMtext = some z) : ∀ sz : Nat, Met l yX5_figure wsX5_figure ({ frames := 1, cells := 0, slots := 0, locals := 25 } : Room) (kPre D [(iMtext, .int)] [oO aM 4 [.int xM_thrown, .ref aMtext, .int xM_textSize, .int xM_place, .int xM_walkers, .int xM_light, .int xM_water, .ref aMnerve, .ref aMkind, .int xM_readWalkers, .int xM_readLight, .int xM_readWater, .ref aMreadNerve, .ref aMreadKind, .ref aMpage, .ref aMtrial, .ref aMbook, .int xM_acts, .ref aMkept, .ref aMisKept, .int xM_told, .ref aMtoldMinute, .ref aMtoldHeard, .long xM_seed, .int xM_orderBest, .int xM_orderMany, .ref aMworth, .int xM_turned], oI aMtext iMtext 32 xMtext] sz [.ref aM, .int j1, .int j2]) (kQi D [(iMtext, .int)] [oO aM 4 [.int xM_thrown, .ref aMtext, .int xM_textSize, .int xM_place, .int xM_walkers, .int xM_light, .int xM_water, .ref aMnerve, .ref aMkind, .int xM_readWalkers, .int xM_readLight, .int xM_readWater, .ref aMreadNerve, .ref aMreadKind, .ref aMpage, .ref aMtrial, .ref aMbook, .int xM_acts, .ref aMkept, .ref aMisKept, .int xM_told, .ref aMtoldMinute, .ref aMtoldHeard, .long xM_seed, .int xM_orderBest, .int xM_orderMany, .ref aMworth, .int xM_turned], oI aMtext iMtext 32 xMtext] sz [oO aM 4 [.int xM_thrown, .ref aMtext, .int xM_textSize, .int z.2, .int xM_walkers, .int xM_light, .int xM_water, .ref aMnerve, .ref aMkind, .int xM_readWalkers, .int xM_readLight, .int xM_readWater, .ref aMreadNerve, .ref aMreadKind, .ref aMpage, .ref aMtrial, .ref aMbook, .int xM_acts, .ref aMkept, .ref aMisKept, .int xM_told, .ref aMtoldMinute, .ref aMtoldHeard, .long xM_seed, .int xM_orderBest, .int xM_orderMany, .ref aMworth, .int xM_turned], oI aMtext iMtext 32 xMtext] z.1) 0 0 (va_A [oO aM 4 [.int xM_thrown, .ref aMtext, .int xM_textSize, .int xM_place, .int xM_walkers, .int xM_light, .int xM_water, .ref aMnerve, .ref aMkind, .int xM_readWalkers, .int xM_readLight, .int xM_readWater, .ref aMreadNerve, .ref aMreadKind, .ref aMpage, .ref aMtrial, .ref aMbook, .int xM_acts, .ref aMkept, .ref aMisKept, .int xM_told, .ref aMtoldMinute, .ref aMtoldHeard, .long xM_seed, .int xM_orderBest, .int xM_orderMany, .ref aMworth, .int xM_turned], oI aMtext iMtext 32 xMtext] sz) := by
  refine kMet_i (own := RX5) z (fun u => u.1) (fun u => [oO aM 4 [.int xM_thrown, .ref aMtext, .int xM_textSize, .int u.2, .int xM_walkers, .int xM_light, .int xM_water, .ref aMnerve, .ref aMkind, .int xM_readWalkers, .int xM_readLight, .int xM_readWater, .ref aMreadNerve, .ref aMreadKind, .ref aMpage, .ref aMtrial, .ref aMbook, .int xM_acts, .ref aMkept, .ref aMisKept, .int xM_told, .ref aMtoldMinute, .ref aMtoldHeard, .long xM_seed, .int xM_orderBest, .int xM_orderMany, .ref aMworth, .int xM_turned], oI aMtext iMtext 32 xMtext]) rfl (by decide) rfl ⟨rfl, rfl⟩ (Nat.le_of_ble_eq_true rfl) ?_
  intro X hXl hXD hC hQ
  subst hXl
  subst hXD
  change kG X 0 [(0, .ref aM), (1, .int j1), (2, .int j2)] [] [oO aM 4 [.int xM_thrown, .ref aMtext, .int xM_textSize, .int xM_place, .int xM_walkers, .int xM_light, .int xM_water, .ref aMnerve, .ref aMkind, .int xM_readWalkers, .int xM_readLight, .int xM_readWater, .ref aMreadNerve, .ref aMreadKind, .ref aMpage, .ref aMtrial, .ref aMbook, .int xM_acts, .ref aMkept, .ref aMisKept, .int xM_told, .ref aMtoldMinute, .ref aMtoldHeard, .long xM_seed, .int xM_orderBest, .int xM_orderMany, .ref aMworth, .int xM_turned], oI aMtext iMtext 32 xMtext]
  have hinX5 : ∀ w ∈ wsX50, w ∈ wsX5_figure := fun _ h => List.mem_cons_of_mem _ (List.mem_append_right _ h)
  unfold fX5_figure at hf
  refine g_aload_n hC 0 dX5_figure_0 rfl rfl ?_
  refine g_get (C := RX5) (T := TX5) (N := 28) (v := .int xM_place) hC hinX5 0 3 rfl rfl (by decide) (List.mem_of_getElem? (i := 1) rfl) rfl dX5_figure_1 ?_
  refine g_aload_n hC 0 dX5_figure_4 rfl rfl ?_
  refine g_get (C := RX5) (T := TX5) (N := 28) (v := .int xM_textSize) hC hinX5 0 2 rfl rfl (by decide) (List.mem_of_getElem? (i := 2) rfl) rfl dX5_figure_5 ?_
  refine g_icmp_eq (tgt := 34) hC dX5_figure_8 (by decide) (fun hc => ?_) (fun hc => ?_)
  · replace hf := gd_t hc hf
    refine g_bipush (v := (-9 : Int32)) hC dX5_figure_34 cb_m9 ?_
    exact hQ ((-9 : Int32), xM_place) _ _ (gd_s hf) dX5_figure_36
  · replace hf := gd_f hc hf
    refine g_aload_n hC 0 dX5_figure_11 rfl rfl ?_
    refine g_get (C := RX5) (T := TX5) (N := 28) (v := .ref aMtext) hC hinX5 0 1 rfl rfl (by decide) (List.mem_of_getElem? (i := 3) rfl) rfl dX5_figure_12 ?_
    refine g_aload_n hC 0 dX5_figure_15 rfl rfl ?_
    refine g_get (C := RX5) (T := TX5) (N := 28) (v := .int xM_place) hC hinX5 0 3 rfl rfl (by decide) (List.mem_of_getElem? (i := 1) rfl) rfl dX5_figure_16 ?_
    obtain ⟨hg, hf⟩ := gd_ga hf
    refine g_iald hC 1 0 hg rfl rfl dX5_figure_19 ?_
    refine g_bipush (v := (48 : Int32)) hC dX5_figure_20 cb_48 ?_
    refine g_isub hC dX5_figure_22 ?_
    refine g_i2l hC dX5_figure_23 ?_
    refine g_iload_n hC 1 dX5_figure_24 rfl rfl ?_
    refine g_i2l hC dX5_figure_25 ?_
    refine g_iload_n hC 2 dX5_figure_26 rfl rfl ?_
    refine g_i2l hC dX5_figure_27 ?_
    obtain ⟨z28, hz28, hf⟩ := gd_b hf
    refine g_callSi (wr := [oO aM 4 [.int xM_thrown, .ref aMtext, .int xM_textSize, .int xM_place, .int xM_walkers, .int xM_light, .int xM_water, .ref aMnerve, .ref aMkind, .int xM_readWalkers, .int xM_readLight, .int xM_readWater, .ref aMreadNerve, .ref aMreadKind, .ref aMpage, .ref aMtrial, .ref aMbook, .int xM_acts, .ref aMkept, .ref aMisKept, .int xM_told, .ref aMtoldMinute, .ref aMtoldHeard, .long xM_seed, .int xM_orderBest, .int xM_orderMany, .ref aMworth, .int xM_turned], oI aMtext iMtext 32 xMtext]) (wn := [oO aM 4 [.int xM_thrown, .ref aMtext, .int xM_textSize, .int xM_place, .int xM_walkers, .int xM_light, .int xM_water, .ref aMnerve, .ref aMkind, .int xM_readWalkers, .int xM_readLight, .int xM_readWater, .ref aMreadNerve, .ref aMreadKind, .ref aMpage, .ref aMtrial, .ref aMbook, .int xM_acts, .ref aMkept, .ref aMisKept, .int xM_told, .ref aMtoldMinute, .ref aMtoldHeard, .long xM_seed, .int xM_orderBest, .int xM_orderMany, .ref aMworth, .int xM_turned], oI aMtext iMtext 32 xMtext]) hC [.long ((xMtext xM_place.toNatClampNeg) - (48 : Int32)).toInt64, .long j1.toInt64, .long j2.toInt64] (cX5_in_m (kl X) (kD X) (((xMtext xM_place.toNatClampNeg) - (48 : Int32)).toInt64) j1.toInt64 j2.toInt64 z28 hz28) gX5_figure_X5_in rfl kyX5_in rfl [] [0, 1] [] [0, 1] rfl rfl rfl rfl (by decide) rfl rfl rfl ⟨rfl, rfl⟩ ⟨Nat.le_of_ble_eq_true rfl, Nat.le_of_ble_eq_true rfl⟩ (Nat.le_of_ble_eq_true rfl) rfl dX5_figure_28 ?_
    refine g_if_ne (tgt := 37) hC dX5_figure_31 (by decide) (fun hc => ?_) (fun hc => ?_)
    · replace hf := gd_f hc hf
      refine g_aload_n hC 0 dX5_figure_37 rfl rfl ?_
      refine g_dup hC dX5_figure_38 rfl ?_
      refine g_get (C := RX5) (T := TX5) (N := 28) (v := .int xM_place) hC hinX5 0 3 rfl rfl (by decide) (List.mem_of_getElem? (i := 1) rfl) rfl dX5_figure_39 ?_
      refine g_iconst (v := (1 : Int32)) hC dX5_figure_42 ci_1 ?_
      refine g_iadd hC dX5_figure_43 ?_
      refine g_put (C := RX5) (T := TX5) (N := 28) (ty := .int) (ws' := [oO aM 4 [.int xM_thrown, .ref aMtext, .int xM_textSize, .int (xM_place + (1 : Int32)), .int xM_walkers, .int xM_light, .int xM_water, .ref aMnerve, .ref aMkind, .int xM_readWalkers, .int xM_readLight, .int xM_readWater, .ref aMreadNerve, .ref aMreadKind, .ref aMpage, .ref aMtrial, .ref aMbook, .int xM_acts, .ref aMkept, .ref aMisKept, .int xM_told, .ref aMtoldMinute, .ref aMtoldHeard, .long xM_seed, .int xM_orderBest, .int xM_orderMany, .ref aMworth, .int xM_turned], oI aMtext iMtext 32 xMtext]) hC tyX5_ok nmX5 hinX5 0 3 rfl rfl (by decide) (List.mem_of_getElem? (i := 1) rfl) rfl rfl rfl rfl (Nat.le_of_ble_eq_true rfl) dX5_figure_44 rfl ?_
      refine g_aload_n hC 0 dX5_figure_47 rfl rfl ?_
      refine g_get (C := RX5) (T := TX5) (N := 28) (v := .ref aMtext) hC hinX5 0 1 rfl rfl (by decide) (List.mem_of_getElem? (i := 3) rfl) rfl dX5_figure_48 ?_
      refine g_aload_n hC 0 dX5_figure_51 rfl rfl ?_
      refine g_get (C := RX5) (T := TX5) (N := 28) (v := .int (xM_place + (1 : Int32))) hC hinX5 0 3 rfl rfl (by decide) (List.mem_of_getElem? (i := 1) rfl) rfl dX5_figure_52 ?_
      refine g_iconst (v := (1 : Int32)) hC dX5_figure_55 ci_1 ?_
      refine g_isub hC dX5_figure_56 ?_
      obtain ⟨hg, hf⟩ := gd_ga hf
      refine g_iald hC 1 0 hg rfl rfl dX5_figure_57 ?_
      refine g_bipush (v := (48 : Int32)) hC dX5_figure_58 cb_48 ?_
      refine g_isub hC dX5_figure_60 ?_
      exact hQ (((xMtext ((xM_place + (1 : Int32)) - (1 : Int32)).toNatClampNeg) - (48 : Int32)), (xM_place + (1 : Int32))) _ _ (gd_s hf) dX5_figure_61
    · replace hf := gd_t hc hf
      refine g_bipush (v := (-9 : Int32)) hC dX5_figure_34 cb_m9 ?_
      exact hQ ((-9 : Int32), xM_place) _ _ (gd_s hf) dX5_figure_36
theorem kyX5_readGorge : yX5_readGorge.cls = RX5 ∧ yX5_readGorge.cls ≠ "java/lang/invoke/MethodHandle" ∧ yX5_readGorge.cls ≠ "java/lang/invoke/VarHandle" ∧ (parseMethodDescriptor yX5_readGorge.desc).map (fun d => d.parameters.length) = some 0 := by decide +kernel
set_option maxHeartbeats 4000000 in
set_option maxRecDepth 100000 in
theorem cX5_readGorge_m (l : Launch) (D : va_G) (aM aMtext aMnerve aMkind aMreadNerve aMreadKind aMpage aMtrial aMbook aMkept aMisKept aMtoldMinute aMtoldHeard aMworth : Nat) (iMtext iMreadNerve iMreadKind : ClassId) (xM_thrown : Int32) (xM_textSize : Int32) (xM_place : Int32) (xM_walkers : Int32) (xM_light : Int32) (xM_water : Int32) (xM_readWalkers : Int32) (xM_readLight : Int32) (xM_readWater : Int32) (xM_acts : Int32) (xM_told : Int32) (xM_seed : Int64) (xM_orderBest : Int32) (xM_orderMany : Int32) (xM_turned : Int32) (xMtext : Nat → Int32) (xMreadNerve : Nat → Int32) (xMreadKind : Nat → Int32)  (z : Int32 × Int32 × Int32 × Int32 × Int32 × (Nat → Int32) × (Nat → Int32)) (hf : fX5_readGorge xM_textSize xM_place xM_readWalkers xM_readLight xM_readWater xMtext xMreadNerve xMreadKind = some z) : ∀ sz : Nat, Met l yX5_readGorge wsX5_readGorge ({ frames := 2, cells := 0, slots := 0, locals := 47 } : Room) (kPre D [(iMtext, .int), (iMreadNerve, .int), (iMreadKind, .int)] [oO aM 4 [.int xM_thrown, .ref aMtext, .int xM_textSize, .int xM_place, .int xM_walkers, .int xM_light, .int xM_water, .ref aMnerve, .ref aMkind, .int xM_readWalkers, .int xM_readLight, .int xM_readWater, .ref aMreadNerve, .ref aMreadKind, .ref aMpage, .ref aMtrial, .ref aMbook, .int xM_acts, .ref aMkept, .ref aMisKept, .int xM_told, .ref aMtoldMinute, .ref aMtoldHeard, .long xM_seed, .int xM_orderBest, .int xM_orderMany, .ref aMworth, .int xM_turned], oI aMtext iMtext 32 xMtext, oI aMreadNerve iMreadNerve 5 xMreadNerve, oI aMreadKind iMreadKind 5 xMreadKind] sz [.ref aM]) (kQi D [(iMtext, .int), (iMreadNerve, .int), (iMreadKind, .int)] [oO aM 4 [.int xM_thrown, .ref aMtext, .int xM_textSize, .int xM_place, .int xM_walkers, .int xM_light, .int xM_water, .ref aMnerve, .ref aMkind, .int xM_readWalkers, .int xM_readLight, .int xM_readWater, .ref aMreadNerve, .ref aMreadKind, .ref aMpage, .ref aMtrial, .ref aMbook, .int xM_acts, .ref aMkept, .ref aMisKept, .int xM_told, .ref aMtoldMinute, .ref aMtoldHeard, .long xM_seed, .int xM_orderBest, .int xM_orderMany, .ref aMworth, .int xM_turned], oI aMtext iMtext 32 xMtext, oI aMreadNerve iMreadNerve 5 xMreadNerve, oI aMreadKind iMreadKind 5 xMreadKind] sz [oO aM 4 [.int xM_thrown, .ref aMtext, .int xM_textSize, .int z.2.1, .int xM_walkers, .int xM_light, .int xM_water, .ref aMnerve, .ref aMkind, .int z.2.2.1, .int z.2.2.2.1, .int z.2.2.2.2.1, .ref aMreadNerve, .ref aMreadKind, .ref aMpage, .ref aMtrial, .ref aMbook, .int xM_acts, .ref aMkept, .ref aMisKept, .int xM_told, .ref aMtoldMinute, .ref aMtoldHeard, .long xM_seed, .int xM_orderBest, .int xM_orderMany, .ref aMworth, .int xM_turned], oI aMtext iMtext 32 xMtext, oI aMreadNerve iMreadNerve 5 z.2.2.2.2.2.1, oI aMreadKind iMreadKind 5 z.2.2.2.2.2.2] z.1) 0 0 (va_A [oO aM 4 [.int xM_thrown, .ref aMtext, .int xM_textSize, .int xM_place, .int xM_walkers, .int xM_light, .int xM_water, .ref aMnerve, .ref aMkind, .int xM_readWalkers, .int xM_readLight, .int xM_readWater, .ref aMreadNerve, .ref aMreadKind, .ref aMpage, .ref aMtrial, .ref aMbook, .int xM_acts, .ref aMkept, .ref aMisKept, .int xM_told, .ref aMtoldMinute, .ref aMtoldHeard, .long xM_seed, .int xM_orderBest, .int xM_orderMany, .ref aMworth, .int xM_turned], oI aMtext iMtext 32 xMtext, oI aMreadNerve iMreadNerve 5 xMreadNerve, oI aMreadKind iMreadKind 5 xMreadKind] sz) := by
  refine kMet_i (own := RX5) z (fun u => u.1) (fun u => [oO aM 4 [.int xM_thrown, .ref aMtext, .int xM_textSize, .int u.2.1, .int xM_walkers, .int xM_light, .int xM_water, .ref aMnerve, .ref aMkind, .int u.2.2.1, .int u.2.2.2.1, .int u.2.2.2.2.1, .ref aMreadNerve, .ref aMreadKind, .ref aMpage, .ref aMtrial, .ref aMbook, .int xM_acts, .ref aMkept, .ref aMisKept, .int xM_told, .ref aMtoldMinute, .ref aMtoldHeard, .long xM_seed, .int xM_orderBest, .int xM_orderMany, .ref aMworth, .int xM_turned], oI aMtext iMtext 32 xMtext, oI aMreadNerve iMreadNerve 5 u.2.2.2.2.2.1, oI aMreadKind iMreadKind 5 u.2.2.2.2.2.2]) rfl (by decide) rfl ⟨rfl, rfl⟩ (Nat.le_of_ble_eq_true rfl) ?_
  intro X hXl hXD hC hQ
  subst hXl
  subst hXD
  change kG X 0 [(0, .ref aM)] [] [oO aM 4 [.int xM_thrown, .ref aMtext, .int xM_textSize, .int xM_place, .int xM_walkers, .int xM_light, .int xM_water, .ref aMnerve, .ref aMkind, .int xM_readWalkers, .int xM_readLight, .int xM_readWater, .ref aMreadNerve, .ref aMreadKind, .ref aMpage, .ref aMtrial, .ref aMbook, .int xM_acts, .ref aMkept, .ref aMisKept, .int xM_told, .ref aMtoldMinute, .ref aMtoldHeard, .long xM_seed, .int xM_orderBest, .int xM_orderMany, .ref aMworth, .int xM_turned], oI aMtext iMtext 32 xMtext, oI aMreadNerve iMreadNerve 5 xMreadNerve, oI aMreadKind iMreadKind 5 xMreadKind]
  have hinX5 : ∀ w ∈ wsX50, w ∈ wsX5_readGorge := fun _ h => List.mem_cons_of_mem _ (List.mem_append_right _ h)
  have t118 : ∀  (xM_place : Int32) (xM_readWalkers : Int32) (xM_readLight : Int32) (xM_readWater : Int32) (xMreadNerve : Nat → Int32) (xMreadKind : Nat → Int32), fX5_readGorge_b118 xM_textSize xMtext  xM_place xM_readWalkers xM_readLight xM_readWater xMreadNerve xMreadKind = some z → kG X 118 [(0, .ref aM)] [] [oO aM 4 [.int xM_thrown, .ref aMtext, .int xM_textSize, .int xM_place, .int xM_walkers, .int xM_light, .int xM_water, .ref aMnerve, .ref aMkind, .int xM_readWalkers, .int xM_readLight, .int xM_readWater, .ref aMreadNerve, .ref aMreadKind, .ref aMpage, .ref aMtrial, .ref aMbook, .int xM_acts, .ref aMkept, .ref aMisKept, .int xM_told, .ref aMtoldMinute, .ref aMtoldHeard, .long xM_seed, .int xM_orderBest, .int xM_orderMany, .ref aMworth, .int xM_turned], oI aMtext iMtext 32 xMtext, oI aMreadNerve iMreadNerve 5 xMreadNerve, oI aMreadKind iMreadKind 5 xMreadKind] := by
    intro xM_place xM_readWalkers xM_readLight xM_readWater xMreadNerve xMreadKind hf
    unfold fX5_readGorge_b118 at hf
    refine g_aload_n hC 0 dX5_readGorge_118 rfl rfl ?_
    refine g_get (C := RX5) (T := TX5) (N := 28) (v := .int xM_place) hC hinX5 0 3 rfl rfl (by decide) (List.mem_of_getElem? (i := 1) rfl) rfl dX5_readGorge_119 ?_
    exact hQ (xM_place, xM_place, xM_readWalkers, xM_readLight, xM_readWater, xMreadNerve, xMreadKind) _ _ (gd_s hf) dX5_readGorge_122
  have t157 : ∀ (k85 : Int32 → Int32 → Int32 → Int32 → (Nat → Int32) → (Nat → Int32) → Option (Int32 × Int32 × Int32 × Int32 × Int32 × (Nat → Int32) × (Nat → Int32))) (hk85 : ∀ (xM_place : Int32) (xM_readWalkers : Int32) (xM_readLight : Int32) (xM_readWater : Int32) (xMreadNerve : Nat → Int32) (xMreadKind : Nat → Int32), k85 xM_place xM_readWalkers xM_readLight xM_readWater xMreadNerve xMreadKind = some z → kG X 85 [(0, .ref aM)] [] [oO aM 4 [.int xM_thrown, .ref aMtext, .int xM_textSize, .int xM_place, .int xM_walkers, .int xM_light, .int xM_water, .ref aMnerve, .ref aMkind, .int xM_readWalkers, .int xM_readLight, .int xM_readWater, .ref aMreadNerve, .ref aMreadKind, .ref aMpage, .ref aMtrial, .ref aMbook, .int xM_acts, .ref aMkept, .ref aMisKept, .int xM_told, .ref aMtoldMinute, .ref aMtoldHeard, .long xM_seed, .int xM_orderBest, .int xM_orderMany, .ref aMworth, .int xM_turned], oI aMtext iMtext 32 xMtext, oI aMreadNerve iMreadNerve 5 xMreadNerve, oI aMreadKind iMreadKind 5 xMreadKind]) (j1 : Int32) (y0 : Int32) (xM_place : Int32) (xM_readWalkers : Int32) (xM_readLight : Int32) (xM_readWater : Int32) (xMreadNerve : Nat → Int32) (xMreadKind : Nat → Int32), fX5_readGorge_b157 xM_textSize xMtext k85 j1 y0 xM_place xM_readWalkers xM_readLight xM_readWater xMreadNerve xMreadKind = some z → kG X 157 [(0, .ref aM), (1, .int j1)] [.int y0] [oO aM 4 [.int xM_thrown, .ref aMtext, .int xM_textSize, .int xM_place, .int xM_walkers, .int xM_light, .int xM_water, .ref aMnerve, .ref aMkind, .int xM_readWalkers, .int xM_readLight, .int xM_readWater, .ref aMreadNerve, .ref aMreadKind, .ref aMpage, .ref aMtrial, .ref aMbook, .int xM_acts, .ref aMkept, .ref aMisKept, .int xM_told, .ref aMtoldMinute, .ref aMtoldHeard, .long xM_seed, .int xM_orderBest, .int xM_orderMany, .ref aMworth, .int xM_turned], oI aMtext iMtext 32 xMtext, oI aMreadNerve iMreadNerve 5 xMreadNerve, oI aMreadKind iMreadKind 5 xMreadKind] := by
    intro k85 hk85 j1 y0 xM_place xM_readWalkers xM_readLight xM_readWater xMreadNerve xMreadKind hf
    unfold fX5_readGorge_b157 at hf
    refine g_istore_n (lv' := [(2, .int y0), (0, .ref aM), (1, .int j1)]) hC dX5_readGorge_157 rfl (by decide) rfl ?_
    refine g_iload_n hC 0 dX5_readGorge_158 rfl rfl ?_
    refine g_bipush (v := (-9 : Int32)) hC dX5_readGorge_159 cb_m9 ?_
    refine g_icmp_ne (tgt := 169) hC dX5_readGorge_161 (by decide) (fun hc => ?_) (fun hc => ?_)
    · replace hf := gd_f hc hf
      refine g_aload_n hC 1 dX5_readGorge_169 rfl rfl ?_
      refine g_get (C := RX5) (T := TX5) (N := 28) (v := .ref aMreadNerve) hC hinX5 0 12 rfl rfl (by decide) (List.mem_of_getElem? (i := 7) rfl) rfl dX5_readGorge_170 ?_
      refine g_aload_n hC 1 dX5_readGorge_173 rfl rfl ?_
      refine g_get (C := RX5) (T := TX5) (N := 28) (v := .int xM_readWalkers) hC hinX5 0 9 rfl rfl (by decide) (List.mem_of_getElem? (i := 2) rfl) rfl dX5_readGorge_174 ?_
      refine g_iload_n hC 2 dX5_readGorge_177 rfl rfl ?_
      obtain ⟨hg, hf⟩ := gd_ga hf
      refine g_iast (ws' := [oO aM 4 [.int xM_thrown, .ref aMtext, .int xM_textSize, .int xM_place, .int xM_walkers, .int xM_light, .int xM_water, .ref aMnerve, .ref aMkind, .int xM_readWalkers, .int xM_readLight, .int xM_readWater, .ref aMreadNerve, .ref aMreadKind, .ref aMpage, .ref aMtrial, .ref aMbook, .int xM_acts, .ref aMkept, .ref aMisKept, .int xM_told, .ref aMtoldMinute, .ref aMtoldHeard, .long xM_seed, .int xM_orderBest, .int xM_orderMany, .ref aMworth, .int xM_turned], oI aMtext iMtext 32 xMtext, oI aMreadNerve iMreadNerve 5 (upd xMreadNerve xM_readWalkers.toNatClampNeg j1), oI aMreadKind iMreadKind 5 xMreadKind]) hC 2 1 hg rfl rfl dX5_readGorge_178 rfl ?_
      refine g_aload_n hC 1 dX5_readGorge_179 rfl rfl ?_
      refine g_get (C := RX5) (T := TX5) (N := 28) (v := .ref aMreadKind) hC hinX5 0 13 rfl rfl (by decide) (List.mem_of_getElem? (i := 8) rfl) rfl dX5_readGorge_180 ?_
      refine g_aload_n hC 1 dX5_readGorge_183 rfl rfl ?_
      refine g_get (C := RX5) (T := TX5) (N := 28) (v := .int xM_readWalkers) hC hinX5 0 9 rfl rfl (by decide) (List.mem_of_getElem? (i := 2) rfl) rfl dX5_readGorge_184 ?_
      refine g_iload_n hC 0 dX5_readGorge_187 rfl rfl ?_
      obtain ⟨hg, hf⟩ := gd_ga hf
      refine g_iast (ws' := [oO aM 4 [.int xM_thrown, .ref aMtext, .int xM_textSize, .int xM_place, .int xM_walkers, .int xM_light, .int xM_water, .ref aMnerve, .ref aMkind, .int xM_readWalkers, .int xM_readLight, .int xM_readWater, .ref aMreadNerve, .ref aMreadKind, .ref aMpage, .ref aMtrial, .ref aMbook, .int xM_acts, .ref aMkept, .ref aMisKept, .int xM_told, .ref aMtoldMinute, .ref aMtoldHeard, .long xM_seed, .int xM_orderBest, .int xM_orderMany, .ref aMworth, .int xM_turned], oI aMtext iMtext 32 xMtext, oI aMreadNerve iMreadNerve 5 (upd xMreadNerve xM_readWalkers.toNatClampNeg j1), oI aMreadKind iMreadKind 5 (upd xMreadKind xM_readWalkers.toNatClampNeg y0)]) hC 3 2 hg rfl rfl dX5_readGorge_188 rfl ?_
      refine g_aload_n hC 1 dX5_readGorge_189 rfl rfl ?_
      refine g_dup hC dX5_readGorge_190 rfl ?_
      refine g_get (C := RX5) (T := TX5) (N := 28) (v := .int xM_readWalkers) hC hinX5 0 9 rfl rfl (by decide) (List.mem_of_getElem? (i := 2) rfl) rfl dX5_readGorge_191 ?_
      refine g_iconst (v := (1 : Int32)) hC dX5_readGorge_194 ci_1 ?_
      refine g_iadd hC dX5_readGorge_195 ?_
      refine g_put (C := RX5) (T := TX5) (N := 28) (ty := .int) (ws' := [oO aM 4 [.int xM_thrown, .ref aMtext, .int xM_textSize, .int xM_place, .int xM_walkers, .int xM_light, .int xM_water, .ref aMnerve, .ref aMkind, .int (xM_readWalkers + (1 : Int32)), .int xM_readLight, .int xM_readWater, .ref aMreadNerve, .ref aMreadKind, .ref aMpage, .ref aMtrial, .ref aMbook, .int xM_acts, .ref aMkept, .ref aMisKept, .int xM_told, .ref aMtoldMinute, .ref aMtoldHeard, .long xM_seed, .int xM_orderBest, .int xM_orderMany, .ref aMworth, .int xM_turned], oI aMtext iMtext 32 xMtext, oI aMreadNerve iMreadNerve 5 (upd xMreadNerve xM_readWalkers.toNatClampNeg j1), oI aMreadKind iMreadKind 5 (upd xMreadKind xM_readWalkers.toNatClampNeg y0)]) hC tyX5_ok nmX5 hinX5 0 9 rfl rfl (by decide) (List.mem_of_getElem? (i := 2) rfl) rfl rfl rfl rfl (Nat.le_of_ble_eq_true rfl) dX5_readGorge_196 rfl ?_
      refine g_goto (tgt := 85) hC dX5_readGorge_199 (by decide) ?_
      refine g_lv (lv' := [(0, .ref aM)]) [1] rfl ?_
      exact hk85 xM_place (xM_readWalkers + (1 : Int32)) xM_readLight xM_readWater (upd xMreadNerve xM_readWalkers.toNatClampNeg j1) (upd xMreadKind xM_readWalkers.toNatClampNeg y0) hf
    · replace hf := gd_t hc hf
      refine g_aload_n hC 1 dX5_readGorge_164 rfl rfl ?_
      refine g_get (C := RX5) (T := TX5) (N := 28) (v := .int xM_place) hC hinX5 0 3 rfl rfl (by decide) (List.mem_of_getElem? (i := 1) rfl) rfl dX5_readGorge_165 ?_
      exact hQ (xM_place, xM_place, xM_readWalkers, xM_readLight, xM_readWater, xMreadNerve, xMreadKind) _ _ (gd_s hf) dX5_readGorge_168
  have t85 : ∀  (n : Nat) (xM_place : Int32) (xM_readWalkers : Int32) (xM_readLight : Int32) (xM_readWater : Int32) (xMreadNerve : Nat → Int32) (xMreadKind : Nat → Int32), lp (fun _ _ _ _ _ _ => none) (fX5_readGorge_b85_S xM_textSize xMtext ) n xM_place xM_readWalkers xM_readLight xM_readWater xMreadNerve xMreadKind = some z → kG X 85 [(0, .ref aM)] [] [oO aM 4 [.int xM_thrown, .ref aMtext, .int xM_textSize, .int xM_place, .int xM_walkers, .int xM_light, .int xM_water, .ref aMnerve, .ref aMkind, .int xM_readWalkers, .int xM_readLight, .int xM_readWater, .ref aMreadNerve, .ref aMreadKind, .ref aMpage, .ref aMtrial, .ref aMbook, .int xM_acts, .ref aMkept, .ref aMisKept, .int xM_told, .ref aMtoldMinute, .ref aMtoldHeard, .long xM_seed, .int xM_orderBest, .int xM_orderMany, .ref aMworth, .int xM_turned], oI aMtext iMtext 32 xMtext, oI aMreadNerve iMreadNerve 5 xMreadNerve, oI aMreadKind iMreadKind 5 xMreadKind] := by
    intro  n
    induction n with
    | zero => intro xM_place xM_readWalkers xM_readLight xM_readWater xMreadNerve xMreadKind hf; cases hf
    | succ n hk85 =>
      intro xM_place xM_readWalkers xM_readLight xM_readWater xMreadNerve xMreadKind hf
      rw [lp_s] at hf
      revert hf hk85
      generalize lp (fun _ _ _ _ _ _ => none) (fX5_readGorge_b85_S xM_textSize xMtext ) n = k85
      intro hk85 hf
      unfold fX5_readGorge_b85_S at hf
      refine g_aload_n hC 0 dX5_readGorge_85 rfl rfl ?_
      refine g_get (C := RX5) (T := TX5) (N := 28) (v := .int xM_place) hC hinX5 0 3 rfl rfl (by decide) (List.mem_of_getElem? (i := 1) rfl) rfl dX5_readGorge_86 ?_
      refine g_aload_n hC 0 dX5_readGorge_89 rfl rfl ?_
      refine g_get (C := RX5) (T := TX5) (N := 28) (v := .int xM_textSize) hC hinX5 0 2 rfl rfl (by decide) (List.mem_of_getElem? (i := 3) rfl) rfl dX5_readGorge_90 ?_
      refine g_icmp_ge (tgt := 202) hC dX5_readGorge_93 (by decide) (fun hc => ?_) (fun hc => ?_)
      · replace hf := gd_t hc hf
        refine g_bipush (v := (-9 : Int32)) hC dX5_readGorge_202 cb_m9 ?_
        exact hQ ((-9 : Int32), xM_place, xM_readWalkers, xM_readLight, xM_readWater, xMreadNerve, xMreadKind) _ _ (gd_s hf) dX5_readGorge_204
      · replace hf := gd_f hc hf
        refine g_aload_n hC 0 dX5_readGorge_96 rfl rfl ?_
        refine g_get (C := RX5) (T := TX5) (N := 28) (v := .ref aMtext) hC hinX5 0 1 rfl rfl (by decide) (List.mem_of_getElem? (i := 4) rfl) rfl dX5_readGorge_97 ?_
        refine g_aload_n hC 0 dX5_readGorge_100 rfl rfl ?_
        refine g_get (C := RX5) (T := TX5) (N := 28) (v := .int xM_place) hC hinX5 0 3 rfl rfl (by decide) (List.mem_of_getElem? (i := 1) rfl) rfl dX5_readGorge_101 ?_
        obtain ⟨hg, hf⟩ := gd_ga hf
        refine g_iald hC 1 0 hg rfl rfl dX5_readGorge_104 ?_
        refine g_bipush (v := (87 : Int32)) hC dX5_readGorge_105 cb_87 ?_
        refine g_icmp_ne (tgt := 118) hC dX5_readGorge_107 (by decide) (fun hc => ?_) (fun hc => ?_)
        · replace hf := gd_f hc hf
          exact t118  xM_place xM_readWalkers xM_readLight xM_readWater xMreadNerve xMreadKind hf
        · replace hf := gd_t hc hf
          refine g_aload_n hC 0 dX5_readGorge_110 rfl rfl ?_
          refine g_get (C := RX5) (T := TX5) (N := 28) (v := .int xM_readWalkers) hC hinX5 0 9 rfl rfl (by decide) (List.mem_of_getElem? (i := 2) rfl) rfl dX5_readGorge_111 ?_
          refine g_iconst (v := (5 : Int32)) hC dX5_readGorge_114 ci_5 ?_
          refine g_icmp_ne (tgt := 123) hC dX5_readGorge_115 (by decide) (fun hc => ?_) (fun hc => ?_)
          · replace hf := gd_f hc hf
            refine g_aload_n hC 0 dX5_readGorge_123 rfl rfl ?_
            refine g_dup hC dX5_readGorge_124 rfl ?_
            refine g_get (C := RX5) (T := TX5) (N := 28) (v := .int xM_place) hC hinX5 0 3 rfl rfl (by decide) (List.mem_of_getElem? (i := 1) rfl) rfl dX5_readGorge_125 ?_
            refine g_iconst (v := (1 : Int32)) hC dX5_readGorge_128 ci_1 ?_
            refine g_iadd hC dX5_readGorge_129 ?_
            refine g_put (C := RX5) (T := TX5) (N := 28) (ty := .int) (ws' := [oO aM 4 [.int xM_thrown, .ref aMtext, .int xM_textSize, .int (xM_place + (1 : Int32)), .int xM_walkers, .int xM_light, .int xM_water, .ref aMnerve, .ref aMkind, .int xM_readWalkers, .int xM_readLight, .int xM_readWater, .ref aMreadNerve, .ref aMreadKind, .ref aMpage, .ref aMtrial, .ref aMbook, .int xM_acts, .ref aMkept, .ref aMisKept, .int xM_told, .ref aMtoldMinute, .ref aMtoldHeard, .long xM_seed, .int xM_orderBest, .int xM_orderMany, .ref aMworth, .int xM_turned], oI aMtext iMtext 32 xMtext, oI aMreadNerve iMreadNerve 5 xMreadNerve, oI aMreadKind iMreadKind 5 xMreadKind]) hC tyX5_ok nmX5 hinX5 0 3 rfl rfl (by decide) (List.mem_of_getElem? (i := 1) rfl) rfl rfl rfl rfl (Nat.le_of_ble_eq_true rfl) dX5_readGorge_130 rfl ?_
            refine g_aload_n hC 0 dX5_readGorge_133 rfl rfl ?_
            refine g_iconst (v := (0 : Int32)) hC dX5_readGorge_134 ci_0 ?_
            refine g_iconst (v := (5 : Int32)) hC dX5_readGorge_135 ci_5 ?_
            obtain ⟨z136, hz136, hf⟩ := gd_b hf
            refine g_callVi (wr := [oI aMreadNerve iMreadNerve 5 xMreadNerve, oI aMreadKind iMreadKind 5 xMreadKind]) (wn := [oO aM 4 [.int xM_thrown, .ref aMtext, .int xM_textSize, .int z136.2, .int xM_walkers, .int xM_light, .int xM_water, .ref aMnerve, .ref aMkind, .int xM_readWalkers, .int xM_readLight, .int xM_readWater, .ref aMreadNerve, .ref aMreadKind, .ref aMpage, .ref aMtrial, .ref aMbook, .int xM_acts, .ref aMkept, .ref aMisKept, .int xM_told, .ref aMtoldMinute, .ref aMtoldHeard, .long xM_seed, .int xM_orderBest, .int xM_orderMany, .ref aMworth, .int xM_turned], oI aMtext iMtext 32 xMtext, oI aMreadNerve iMreadNerve 5 xMreadNerve, oI aMreadKind iMreadKind 5 xMreadKind]) hC [.int (0 : Int32), .int (5 : Int32)] (cX5_figure_m (kl X) (kD X) aM aMtext aMnerve aMkind aMreadNerve aMreadKind aMpage aMtrial aMbook aMkept aMisKept aMtoldMinute aMtoldHeard aMworth iMtext xM_thrown xM_textSize (xM_place + (1 : Int32)) xM_walkers xM_light xM_water xM_readWalkers xM_readLight xM_readWater xM_acts xM_told xM_seed xM_orderBest xM_orderMany xM_turned xMtext (0 : Int32) (5 : Int32) z136 hz136) gX5_readGorge_X5_figure rfl kyX5_figure rfl rfl rfl (q0 := 0) rfl [0, 1] [2, 3] [0] [2, 3, 0, 1] rfl rfl rfl rfl (by decide) rfl rfl rfl ⟨rfl, rfl⟩ ⟨Nat.le_of_ble_eq_true rfl, Nat.le_of_ble_eq_true rfl⟩ (Nat.le_of_ble_eq_true rfl) rfl dX5_readGorge_136 ?_
            refine g_istore_n (lv' := [(1, .int z136.1), (0, .ref aM)]) hC dX5_readGorge_139 rfl (by decide) rfl ?_
            refine g_iload_n hC 0 dX5_readGorge_140 rfl rfl ?_
            refine g_bipush (v := (-9 : Int32)) hC dX5_readGorge_141 cb_m9 ?_
            refine g_icmp_ne (tgt := 151) hC dX5_readGorge_143 (by decide) (fun hc => ?_) (fun hc => ?_)
            · replace hf := gd_f hc hf
              refine g_aload_n hC 1 dX5_readGorge_151 rfl rfl ?_
              refine g_iconst (v := (0 : Int32)) hC dX5_readGorge_152 ci_0 ?_
              refine g_iconst (v := (3 : Int32)) hC dX5_readGorge_153 ci_3 ?_
              obtain ⟨z154, hz154, hf⟩ := gd_b hf
              refine g_callVi (wr := [oI aMreadNerve iMreadNerve 5 xMreadNerve, oI aMreadKind iMreadKind 5 xMreadKind]) (wn := [oO aM 4 [.int xM_thrown, .ref aMtext, .int xM_textSize, .int z154.2, .int xM_walkers, .int xM_light, .int xM_water, .ref aMnerve, .ref aMkind, .int xM_readWalkers, .int xM_readLight, .int xM_readWater, .ref aMreadNerve, .ref aMreadKind, .ref aMpage, .ref aMtrial, .ref aMbook, .int xM_acts, .ref aMkept, .ref aMisKept, .int xM_told, .ref aMtoldMinute, .ref aMtoldHeard, .long xM_seed, .int xM_orderBest, .int xM_orderMany, .ref aMworth, .int xM_turned], oI aMtext iMtext 32 xMtext, oI aMreadNerve iMreadNerve 5 xMreadNerve, oI aMreadKind iMreadKind 5 xMreadKind]) hC [.int (0 : Int32), .int (3 : Int32)] (cX5_figure_m (kl X) (kD X) aM aMtext aMnerve aMkind aMreadNerve aMreadKind aMpage aMtrial aMbook aMkept aMisKept aMtoldMinute aMtoldHeard aMworth iMtext xM_thrown xM_textSize z136.2 xM_walkers xM_light xM_water xM_readWalkers xM_readLight xM_readWater xM_acts xM_told xM_seed xM_orderBest xM_orderMany xM_turned xMtext (0 : Int32) (3 : Int32) z154 hz154) gX5_readGorge_X5_figure rfl kyX5_figure rfl rfl rfl (q0 := 0) rfl [0, 1] [2, 3] [0] [2, 3, 0, 1] rfl rfl rfl rfl (by decide) rfl rfl rfl ⟨rfl, rfl⟩ ⟨Nat.le_of_ble_eq_true rfl, Nat.le_of_ble_eq_true rfl⟩ (Nat.le_of_ble_eq_true rfl) rfl dX5_readGorge_154 ?_
              refine g_lv (lv' := [(0, .ref aM), (1, .int z136.1)]) [1, 0] rfl ?_
              exact t157 k85 hk85 z136.1 z154.1 z154.2 xM_readWalkers xM_readLight xM_readWater xMreadNerve xMreadKind hf
            · replace hf := gd_t hc hf
              refine g_bipush (v := (-9 : Int32)) hC dX5_readGorge_146 cb_m9 ?_
              refine g_goto (tgt := 157) hC dX5_readGorge_148 (by decide) ?_
              refine g_lv (lv' := [(0, .ref aM), (1, .int z136.1)]) [1, 0] rfl ?_
              exact t157 k85 hk85 z136.1 (-9 : Int32) z136.2 xM_readWalkers xM_readLight xM_readWater xMreadNerve xMreadKind hf
          · replace hf := gd_t hc hf
            exact t118  xM_place xM_readWalkers xM_readLight xM_readWater xMreadNerve xMreadKind hf
  have t68 : ∀  (y0 : Int32) (xM_place : Int32) (xM_readWalkers : Int32) (xM_readLight : Int32) (xM_readWater : Int32) (xMreadNerve : Nat → Int32) (xMreadKind : Nat → Int32), fX5_readGorge_b68 xM_textSize xMtext  y0 xM_place xM_readWalkers xM_readLight xM_readWater xMreadNerve xMreadKind = some z → kG X 68 [(0, .ref aM)] [.int y0, .ref aM] [oO aM 4 [.int xM_thrown, .ref aMtext, .int xM_textSize, .int xM_place, .int xM_walkers, .int xM_light, .int xM_water, .ref aMnerve, .ref aMkind, .int xM_readWalkers, .int xM_readLight, .int xM_readWater, .ref aMreadNerve, .ref aMreadKind, .ref aMpage, .ref aMtrial, .ref aMbook, .int xM_acts, .ref aMkept, .ref aMisKept, .int xM_told, .ref aMtoldMinute, .ref aMtoldHeard, .long xM_seed, .int xM_orderBest, .int xM_orderMany, .ref aMworth, .int xM_turned], oI aMtext iMtext 32 xMtext, oI aMreadNerve iMreadNerve 5 xMreadNerve, oI aMreadKind iMreadKind 5 xMreadKind] := by
    intro y0 xM_place xM_readWalkers xM_readLight xM_readWater xMreadNerve xMreadKind hf
    unfold fX5_readGorge_b68 at hf
    refine g_put (C := RX5) (T := TX5) (N := 28) (ty := .int) (ws' := [oO aM 4 [.int xM_thrown, .ref aMtext, .int xM_textSize, .int xM_place, .int xM_walkers, .int xM_light, .int xM_water, .ref aMnerve, .ref aMkind, .int xM_readWalkers, .int xM_readLight, .int y0, .ref aMreadNerve, .ref aMreadKind, .ref aMpage, .ref aMtrial, .ref aMbook, .int xM_acts, .ref aMkept, .ref aMisKept, .int xM_told, .ref aMtoldMinute, .ref aMtoldHeard, .long xM_seed, .int xM_orderBest, .int xM_orderMany, .ref aMworth, .int xM_turned], oI aMtext iMtext 32 xMtext, oI aMreadNerve iMreadNerve 5 xMreadNerve, oI aMreadKind iMreadKind 5 xMreadKind]) hC tyX5_ok nmX5 hinX5 0 11 rfl rfl (by decide) (List.mem_of_getElem? (i := 6) rfl) rfl rfl rfl rfl (Nat.le_of_ble_eq_true rfl) dX5_readGorge_68 rfl ?_
    refine g_aload_n hC 0 dX5_readGorge_71 rfl rfl ?_
    refine g_get (C := RX5) (T := TX5) (N := 28) (v := .int y0) hC hinX5 0 11 rfl rfl (by decide) (List.mem_of_getElem? (i := 6) rfl) rfl dX5_readGorge_72 ?_
    refine g_bipush (v := (-9 : Int32)) hC dX5_readGorge_75 cb_m9 ?_
    refine g_icmp_ne (tgt := 85) hC dX5_readGorge_77 (by decide) (fun hc => ?_) (fun hc => ?_)
    · replace hf := gd_f hc hf
      exact t85  fu xM_place xM_readWalkers xM_readLight y0 xMreadNerve xMreadKind hf
    · replace hf := gd_t hc hf
      refine g_aload_n hC 0 dX5_readGorge_80 rfl rfl ?_
      refine g_get (C := RX5) (T := TX5) (N := 28) (v := .int xM_place) hC hinX5 0 3 rfl rfl (by decide) (List.mem_of_getElem? (i := 1) rfl) rfl dX5_readGorge_81 ?_
      exact hQ (xM_place, xM_place, xM_readWalkers, xM_readLight, y0, xMreadNerve, xMreadKind) _ _ (gd_s hf) dX5_readGorge_84
  unfold fX5_readGorge at hf
  refine g_aload_n hC 0 dX5_readGorge_0 rfl rfl ?_
  refine g_iconst (v := (0 : Int32)) hC dX5_readGorge_1 ci_0 ?_
  refine g_put (C := RX5) (T := TX5) (N := 28) (ty := .int) (ws' := [oO aM 4 [.int xM_thrown, .ref aMtext, .int xM_textSize, .int (0 : Int32), .int xM_walkers, .int xM_light, .int xM_water, .ref aMnerve, .ref aMkind, .int xM_readWalkers, .int xM_readLight, .int xM_readWater, .ref aMreadNerve, .ref aMreadKind, .ref aMpage, .ref aMtrial, .ref aMbook, .int xM_acts, .ref aMkept, .ref aMisKept, .int xM_told, .ref aMtoldMinute, .ref aMtoldHeard, .long xM_seed, .int xM_orderBest, .int xM_orderMany, .ref aMworth, .int xM_turned], oI aMtext iMtext 32 xMtext, oI aMreadNerve iMreadNerve 5 xMreadNerve, oI aMreadKind iMreadKind 5 xMreadKind]) hC tyX5_ok nmX5 hinX5 0 3 rfl rfl (by decide) (List.mem_of_getElem? (i := 1) rfl) rfl rfl rfl rfl (Nat.le_of_ble_eq_true rfl) dX5_readGorge_2 rfl ?_
  refine g_aload_n hC 0 dX5_readGorge_5 rfl rfl ?_
  refine g_iconst (v := (0 : Int32)) hC dX5_readGorge_6 ci_0 ?_
  refine g_put (C := RX5) (T := TX5) (N := 28) (ty := .int) (ws' := [oO aM 4 [.int xM_thrown, .ref aMtext, .int xM_textSize, .int (0 : Int32), .int xM_walkers, .int xM_light, .int xM_water, .ref aMnerve, .ref aMkind, .int (0 : Int32), .int xM_readLight, .int xM_readWater, .ref aMreadNerve, .ref aMreadKind, .ref aMpage, .ref aMtrial, .ref aMbook, .int xM_acts, .ref aMkept, .ref aMisKept, .int xM_told, .ref aMtoldMinute, .ref aMtoldHeard, .long xM_seed, .int xM_orderBest, .int xM_orderMany, .ref aMworth, .int xM_turned], oI aMtext iMtext 32 xMtext, oI aMreadNerve iMreadNerve 5 xMreadNerve, oI aMreadKind iMreadKind 5 xMreadKind]) hC tyX5_ok nmX5 hinX5 0 9 rfl rfl (by decide) (List.mem_of_getElem? (i := 2) rfl) rfl rfl rfl rfl (Nat.le_of_ble_eq_true rfl) dX5_readGorge_7 rfl ?_
  refine g_aload_n hC 0 dX5_readGorge_10 rfl rfl ?_
  refine g_get (C := RX5) (T := TX5) (N := 28) (v := .int xM_textSize) hC hinX5 0 2 rfl rfl (by decide) (List.mem_of_getElem? (i := 3) rfl) rfl dX5_readGorge_11 ?_
  refine g_if_eq (tgt := 28) hC dX5_readGorge_14 (by decide) (fun hc => ?_) (fun hc => ?_)
  · replace hf := gd_t hc hf
    refine g_iconst (v := (0 : Int32)) hC dX5_readGorge_28 ci_0 ?_
    exact hQ ((0 : Int32), (0 : Int32), (0 : Int32), xM_readLight, xM_readWater, xMreadNerve, xMreadKind) _ _ (gd_s hf) dX5_readGorge_29
  · replace hf := gd_f hc hf
    refine g_aload_n hC 0 dX5_readGorge_17 rfl rfl ?_
    refine g_get (C := RX5) (T := TX5) (N := 28) (v := .ref aMtext) hC hinX5 0 1 rfl rfl (by decide) (List.mem_of_getElem? (i := 4) rfl) rfl dX5_readGorge_18 ?_
    refine g_iconst (v := (0 : Int32)) hC dX5_readGorge_21 ci_0 ?_
    obtain ⟨hg, hf⟩ := gd_ga hf
    refine g_iald hC 1 0 hg rfl rfl dX5_readGorge_22 ?_
    refine g_bipush (v := (71 : Int32)) hC dX5_readGorge_23 cb_71 ?_
    refine g_icmp_eq (tgt := 30) hC dX5_readGorge_25 (by decide) (fun hc => ?_) (fun hc => ?_)
    · replace hf := gd_t hc hf
      refine g_aload_n hC 0 dX5_readGorge_30 rfl rfl ?_
      refine g_iconst (v := (1 : Int32)) hC dX5_readGorge_31 ci_1 ?_
      refine g_put (C := RX5) (T := TX5) (N := 28) (ty := .int) (ws' := [oO aM 4 [.int xM_thrown, .ref aMtext, .int xM_textSize, .int (1 : Int32), .int xM_walkers, .int xM_light, .int xM_water, .ref aMnerve, .ref aMkind, .int (0 : Int32), .int xM_readLight, .int xM_readWater, .ref aMreadNerve, .ref aMreadKind, .ref aMpage, .ref aMtrial, .ref aMbook, .int xM_acts, .ref aMkept, .ref aMisKept, .int xM_told, .ref aMtoldMinute, .ref aMtoldHeard, .long xM_seed, .int xM_orderBest, .int xM_orderMany, .ref aMworth, .int xM_turned], oI aMtext iMtext 32 xMtext, oI aMreadNerve iMreadNerve 5 xMreadNerve, oI aMreadKind iMreadKind 5 xMreadKind]) hC tyX5_ok nmX5 hinX5 0 3 rfl rfl (by decide) (List.mem_of_getElem? (i := 1) rfl) rfl rfl rfl rfl (Nat.le_of_ble_eq_true rfl) dX5_readGorge_32 rfl ?_
      refine g_aload_n hC 0 dX5_readGorge_35 rfl rfl ?_
      refine g_aload_n hC 0 dX5_readGorge_36 rfl rfl ?_
      refine g_iconst (v := (1 : Int32)) hC dX5_readGorge_37 ci_1 ?_
      refine g_bipush (v := (9 : Int32)) hC dX5_readGorge_38 cb_9 ?_
      obtain ⟨z40, hz40, hf⟩ := gd_b hf
      refine g_callVi (wr := [oI aMreadNerve iMreadNerve 5 xMreadNerve, oI aMreadKind iMreadKind 5 xMreadKind]) (wn := [oO aM 4 [.int xM_thrown, .ref aMtext, .int xM_textSize, .int z40.2, .int xM_walkers, .int xM_light, .int xM_water, .ref aMnerve, .ref aMkind, .int (0 : Int32), .int xM_readLight, .int xM_readWater, .ref aMreadNerve, .ref aMreadKind, .ref aMpage, .ref aMtrial, .ref aMbook, .int xM_acts, .ref aMkept, .ref aMisKept, .int xM_told, .ref aMtoldMinute, .ref aMtoldHeard, .long xM_seed, .int xM_orderBest, .int xM_orderMany, .ref aMworth, .int xM_turned], oI aMtext iMtext 32 xMtext, oI aMreadNerve iMreadNerve 5 xMreadNerve, oI aMreadKind iMreadKind 5 xMreadKind]) hC [.int (1 : Int32), .int (9 : Int32)] (cX5_figure_m (kl X) (kD X) aM aMtext aMnerve aMkind aMreadNerve aMreadKind aMpage aMtrial aMbook aMkept aMisKept aMtoldMinute aMtoldHeard aMworth iMtext xM_thrown xM_textSize (1 : Int32) xM_walkers xM_light xM_water (0 : Int32) xM_readLight xM_readWater xM_acts xM_told xM_seed xM_orderBest xM_orderMany xM_turned xMtext (1 : Int32) (9 : Int32) z40 hz40) gX5_readGorge_X5_figure rfl kyX5_figure rfl rfl rfl (q0 := 0) rfl [0, 1] [2, 3] [0] [2, 3, 0, 1] rfl rfl rfl rfl (by decide) rfl rfl rfl ⟨rfl, rfl⟩ ⟨Nat.le_of_ble_eq_true rfl, Nat.le_of_ble_eq_true rfl⟩ (Nat.le_of_ble_eq_true rfl) rfl dX5_readGorge_40 ?_
      refine g_put (C := RX5) (T := TX5) (N := 28) (ty := .int) (ws' := [oO aM 4 [.int xM_thrown, .ref aMtext, .int xM_textSize, .int z40.2, .int xM_walkers, .int xM_light, .int xM_water, .ref aMnerve, .ref aMkind, .int (0 : Int32), .int z40.1, .int xM_readWater, .ref aMreadNerve, .ref aMreadKind, .ref aMpage, .ref aMtrial, .ref aMbook, .int xM_acts, .ref aMkept, .ref aMisKept, .int xM_told, .ref aMtoldMinute, .ref aMtoldHeard, .long xM_seed, .int xM_orderBest, .int xM_orderMany, .ref aMworth, .int xM_turned], oI aMtext iMtext 32 xMtext, oI aMreadNerve iMreadNerve 5 xMreadNerve, oI aMreadKind iMreadKind 5 xMreadKind]) hC tyX5_ok nmX5 hinX5 0 10 rfl rfl (by decide) (List.mem_of_getElem? (i := 5) rfl) rfl rfl rfl rfl (Nat.le_of_ble_eq_true rfl) dX5_readGorge_43 rfl ?_
      refine g_aload_n hC 0 dX5_readGorge_46 rfl rfl ?_
      refine g_aload_n hC 0 dX5_readGorge_47 rfl rfl ?_
      refine g_get (C := RX5) (T := TX5) (N := 28) (v := .int z40.1) hC hinX5 0 10 rfl rfl (by decide) (List.mem_of_getElem? (i := 5) rfl) rfl dX5_readGorge_48 ?_
      refine g_bipush (v := (-9 : Int32)) hC dX5_readGorge_51 cb_m9 ?_
      refine g_icmp_ne (tgt := 61) hC dX5_readGorge_53 (by decide) (fun hc => ?_) (fun hc => ?_)
      · replace hf := gd_f hc hf
        refine g_aload_n hC 0 dX5_readGorge_61 rfl rfl ?_
        refine g_iconst (v := (0 : Int32)) hC dX5_readGorge_62 ci_0 ?_
        refine g_bipush (v := (9 : Int32)) hC dX5_readGorge_63 cb_9 ?_
        obtain ⟨z65, hz65, hf⟩ := gd_b hf
        refine g_callVi (wr := [oI aMreadNerve iMreadNerve 5 xMreadNerve, oI aMreadKind iMreadKind 5 xMreadKind]) (wn := [oO aM 4 [.int xM_thrown, .ref aMtext, .int xM_textSize, .int z65.2, .int xM_walkers, .int xM_light, .int xM_water, .ref aMnerve, .ref aMkind, .int (0 : Int32), .int z40.1, .int xM_readWater, .ref aMreadNerve, .ref aMreadKind, .ref aMpage, .ref aMtrial, .ref aMbook, .int xM_acts, .ref aMkept, .ref aMisKept, .int xM_told, .ref aMtoldMinute, .ref aMtoldHeard, .long xM_seed, .int xM_orderBest, .int xM_orderMany, .ref aMworth, .int xM_turned], oI aMtext iMtext 32 xMtext, oI aMreadNerve iMreadNerve 5 xMreadNerve, oI aMreadKind iMreadKind 5 xMreadKind]) hC [.int (0 : Int32), .int (9 : Int32)] (cX5_figure_m (kl X) (kD X) aM aMtext aMnerve aMkind aMreadNerve aMreadKind aMpage aMtrial aMbook aMkept aMisKept aMtoldMinute aMtoldHeard aMworth iMtext xM_thrown xM_textSize z40.2 xM_walkers xM_light xM_water (0 : Int32) z40.1 xM_readWater xM_acts xM_told xM_seed xM_orderBest xM_orderMany xM_turned xMtext (0 : Int32) (9 : Int32) z65 hz65) gX5_readGorge_X5_figure rfl kyX5_figure rfl rfl rfl (q0 := 0) rfl [0, 1] [2, 3] [0] [2, 3, 0, 1] rfl rfl rfl rfl (by decide) rfl rfl rfl ⟨rfl, rfl⟩ ⟨Nat.le_of_ble_eq_true rfl, Nat.le_of_ble_eq_true rfl⟩ (Nat.le_of_ble_eq_true rfl) rfl dX5_readGorge_65 ?_
        exact t68  z65.1 z65.2 (0 : Int32) z40.1 xM_readWater xMreadNerve xMreadKind hf
      · replace hf := gd_t hc hf
        refine g_bipush (v := (-9 : Int32)) hC dX5_readGorge_56 cb_m9 ?_
        refine g_goto (tgt := 68) hC dX5_readGorge_58 (by decide) ?_
        exact t68  (-9 : Int32) z40.2 (0 : Int32) z40.1 xM_readWater xMreadNerve xMreadKind hf
    · replace hf := gd_f hc hf
      refine g_iconst (v := (0 : Int32)) hC dX5_readGorge_28 ci_0 ?_
      exact hQ ((0 : Int32), (0 : Int32), (0 : Int32), xM_readLight, xM_readWater, xMreadNerve, xMreadKind) _ _ (gd_s hf) dX5_readGorge_29
theorem kyX5_fault : yX5_fault.cls = RX5 ∧ yX5_fault.cls ≠ "java/lang/invoke/MethodHandle" ∧ yX5_fault.cls ≠ "java/lang/invoke/VarHandle" ∧ (parseMethodDescriptor yX5_fault.desc).map (fun d => d.parameters.length) = some 0 := by decide +kernel
set_option maxHeartbeats 4000000 in
set_option maxRecDepth 100000 in
theorem cX5_fault_m (l : Launch) (D : va_G) (aM aMtext aMnerve aMkind aMreadNerve aMreadKind aMpage aMtrial aMbook aMkept aMisKept aMtoldMinute aMtoldHeard aMworth : Nat) (iMtext iMreadNerve iMreadKind : ClassId) (xM_thrown : Int32) (xM_textSize : Int32) (xM_place : Int32) (xM_walkers : Int32) (xM_light : Int32) (xM_water : Int32) (xM_readWalkers : Int32) (xM_readLight : Int32) (xM_readWater : Int32) (xM_acts : Int32) (xM_told : Int32) (xM_seed : Int64) (xM_orderBest : Int32) (xM_orderMany : Int32) (xM_turned : Int32) (xMtext : Nat → Int32) (xMreadNerve : Nat → Int32) (xMreadKind : Nat → Int32)  (z : Int32 × Int32 × Int32 × Int32 × Int32 × Int32 × (Nat → Int32) × (Nat → Int32)) (hf : fX5_fault xM_thrown xM_textSize xM_place xM_readWalkers xM_readLight xM_readWater xMtext xMreadNerve xMreadKind = some z) : ∀ sz : Nat, Met l yX5_fault wsX5_fault ({ frames := 3, cells := 0, slots := 0, locals := 69 } : Room) (kPre D [(iMtext, .int), (iMreadNerve, .int), (iMreadKind, .int)] [oO aM 4 [.int xM_thrown, .ref aMtext, .int xM_textSize, .int xM_place, .int xM_walkers, .int xM_light, .int xM_water, .ref aMnerve, .ref aMkind, .int xM_readWalkers, .int xM_readLight, .int xM_readWater, .ref aMreadNerve, .ref aMreadKind, .ref aMpage, .ref aMtrial, .ref aMbook, .int xM_acts, .ref aMkept, .ref aMisKept, .int xM_told, .ref aMtoldMinute, .ref aMtoldHeard, .long xM_seed, .int xM_orderBest, .int xM_orderMany, .ref aMworth, .int xM_turned], oI aMtext iMtext 32 xMtext, oI aMreadNerve iMreadNerve 5 xMreadNerve, oI aMreadKind iMreadKind 5 xMreadKind] sz [.ref aM]) (kQi D [(iMtext, .int), (iMreadNerve, .int), (iMreadKind, .int)] [oO aM 4 [.int xM_thrown, .ref aMtext, .int xM_textSize, .int xM_place, .int xM_walkers, .int xM_light, .int xM_water, .ref aMnerve, .ref aMkind, .int xM_readWalkers, .int xM_readLight, .int xM_readWater, .ref aMreadNerve, .ref aMreadKind, .ref aMpage, .ref aMtrial, .ref aMbook, .int xM_acts, .ref aMkept, .ref aMisKept, .int xM_told, .ref aMtoldMinute, .ref aMtoldHeard, .long xM_seed, .int xM_orderBest, .int xM_orderMany, .ref aMworth, .int xM_turned], oI aMtext iMtext 32 xMtext, oI aMreadNerve iMreadNerve 5 xMreadNerve, oI aMreadKind iMreadKind 5 xMreadKind] sz [oO aM 4 [.int z.2.1, .ref aMtext, .int xM_textSize, .int z.2.2.1, .int xM_walkers, .int xM_light, .int xM_water, .ref aMnerve, .ref aMkind, .int z.2.2.2.1, .int z.2.2.2.2.1, .int z.2.2.2.2.2.1, .ref aMreadNerve, .ref aMreadKind, .ref aMpage, .ref aMtrial, .ref aMbook, .int xM_acts, .ref aMkept, .ref aMisKept, .int xM_told, .ref aMtoldMinute, .ref aMtoldHeard, .long xM_seed, .int xM_orderBest, .int xM_orderMany, .ref aMworth, .int xM_turned], oI aMtext iMtext 32 xMtext, oI aMreadNerve iMreadNerve 5 z.2.2.2.2.2.2.1, oI aMreadKind iMreadKind 5 z.2.2.2.2.2.2.2] z.1) 0 0 (va_A [oO aM 4 [.int xM_thrown, .ref aMtext, .int xM_textSize, .int xM_place, .int xM_walkers, .int xM_light, .int xM_water, .ref aMnerve, .ref aMkind, .int xM_readWalkers, .int xM_readLight, .int xM_readWater, .ref aMreadNerve, .ref aMreadKind, .ref aMpage, .ref aMtrial, .ref aMbook, .int xM_acts, .ref aMkept, .ref aMisKept, .int xM_told, .ref aMtoldMinute, .ref aMtoldHeard, .long xM_seed, .int xM_orderBest, .int xM_orderMany, .ref aMworth, .int xM_turned], oI aMtext iMtext 32 xMtext, oI aMreadNerve iMreadNerve 5 xMreadNerve, oI aMreadKind iMreadKind 5 xMreadKind] sz) := by
  refine kMet_i (own := RX5) z (fun u => u.1) (fun u => [oO aM 4 [.int u.2.1, .ref aMtext, .int xM_textSize, .int u.2.2.1, .int xM_walkers, .int xM_light, .int xM_water, .ref aMnerve, .ref aMkind, .int u.2.2.2.1, .int u.2.2.2.2.1, .int u.2.2.2.2.2.1, .ref aMreadNerve, .ref aMreadKind, .ref aMpage, .ref aMtrial, .ref aMbook, .int xM_acts, .ref aMkept, .ref aMisKept, .int xM_told, .ref aMtoldMinute, .ref aMtoldHeard, .long xM_seed, .int xM_orderBest, .int xM_orderMany, .ref aMworth, .int xM_turned], oI aMtext iMtext 32 xMtext, oI aMreadNerve iMreadNerve 5 u.2.2.2.2.2.2.1, oI aMreadKind iMreadKind 5 u.2.2.2.2.2.2.2]) rfl (by decide) rfl ⟨rfl, rfl⟩ (Nat.le_of_ble_eq_true rfl) ?_
  intro X hXl hXD hC hQ
  subst hXl
  subst hXD
  change kG X 0 [(0, .ref aM)] [] [oO aM 4 [.int xM_thrown, .ref aMtext, .int xM_textSize, .int xM_place, .int xM_walkers, .int xM_light, .int xM_water, .ref aMnerve, .ref aMkind, .int xM_readWalkers, .int xM_readLight, .int xM_readWater, .ref aMreadNerve, .ref aMreadKind, .ref aMpage, .ref aMtrial, .ref aMbook, .int xM_acts, .ref aMkept, .ref aMisKept, .int xM_told, .ref aMtoldMinute, .ref aMtoldHeard, .long xM_seed, .int xM_orderBest, .int xM_orderMany, .ref aMworth, .int xM_turned], oI aMtext iMtext 32 xMtext, oI aMreadNerve iMreadNerve 5 xMreadNerve, oI aMreadKind iMreadKind 5 xMreadKind]
  have hinX5 : ∀ w ∈ wsX50, w ∈ wsX5_fault := fun _ h => List.mem_cons_of_mem _ (List.mem_append_right _ h)
  unfold fX5_fault at hf
  refine g_aload_n hC 0 dX5_fault_0 rfl rfl ?_
  refine g_iconst (v := (0 : Int32)) hC dX5_fault_1 ci_0 ?_
  refine g_put (C := RX5) (T := TX5) (N := 28) (ty := .int) (ws' := [oO aM 4 [.int (0 : Int32), .ref aMtext, .int xM_textSize, .int xM_place, .int xM_walkers, .int xM_light, .int xM_water, .ref aMnerve, .ref aMkind, .int xM_readWalkers, .int xM_readLight, .int xM_readWater, .ref aMreadNerve, .ref aMreadKind, .ref aMpage, .ref aMtrial, .ref aMbook, .int xM_acts, .ref aMkept, .ref aMisKept, .int xM_told, .ref aMtoldMinute, .ref aMtoldHeard, .long xM_seed, .int xM_orderBest, .int xM_orderMany, .ref aMworth, .int xM_turned], oI aMtext iMtext 32 xMtext, oI aMreadNerve iMreadNerve 5 xMreadNerve, oI aMreadKind iMreadKind 5 xMreadKind]) hC tyX5_ok nmX5 hinX5 0 0 rfl rfl (by decide) (List.mem_of_getElem? (i := 1) rfl) rfl rfl rfl rfl (Nat.le_of_ble_eq_true rfl) dX5_fault_2 rfl ?_
  refine g_aload_n hC 0 dX5_fault_5 rfl rfl ?_
  obtain ⟨z6, hz6, hf⟩ := gd_b hf
  refine g_callVi (wr := []) (wn := [oO aM 4 [.int (0 : Int32), .ref aMtext, .int xM_textSize, .int z6.2.1, .int xM_walkers, .int xM_light, .int xM_water, .ref aMnerve, .ref aMkind, .int z6.2.2.1, .int z6.2.2.2.1, .int z6.2.2.2.2.1, .ref aMreadNerve, .ref aMreadKind, .ref aMpage, .ref aMtrial, .ref aMbook, .int xM_acts, .ref aMkept, .ref aMisKept, .int xM_told, .ref aMtoldMinute, .ref aMtoldHeard, .long xM_seed, .int xM_orderBest, .int xM_orderMany, .ref aMworth, .int xM_turned], oI aMtext iMtext 32 xMtext, oI aMreadNerve iMreadNerve 5 z6.2.2.2.2.2.1, oI aMreadKind iMreadKind 5 z6.2.2.2.2.2.2]) hC [] (cX5_readGorge_m (kl X) (kD X) aM aMtext aMnerve aMkind aMreadNerve aMreadKind aMpage aMtrial aMbook aMkept aMisKept aMtoldMinute aMtoldHeard aMworth iMtext iMreadNerve iMreadKind (0 : Int32) xM_textSize xM_place xM_walkers xM_light xM_water xM_readWalkers xM_readLight xM_readWater xM_acts xM_told xM_seed xM_orderBest xM_orderMany xM_turned xMtext xMreadNerve xMreadKind z6 hz6) gX5_fault_X5_readGorge rfl kyX5_readGorge rfl rfl rfl (q0 := 0) rfl [0, 1, 2, 3] [] [0, 1, 2] [0, 1, 2, 3] rfl rfl rfl rfl (by decide) rfl rfl rfl ⟨rfl, rfl⟩ ⟨Nat.le_of_ble_eq_true rfl, Nat.le_of_ble_eq_true rfl⟩ (Nat.le_of_ble_eq_true rfl) rfl dX5_fault_6 ?_
  exact hQ (z6.1, (0 : Int32), z6.2.1, z6.2.2.1, z6.2.2.2.1, z6.2.2.2.2.1, z6.2.2.2.2.2.1, z6.2.2.2.2.2.2) _ _ (gd_s hf) dX5_fault_9
theorem kyX5_gorge : yX5_gorge.cls = RX5 ∧ yX5_gorge.cls ≠ "java/lang/invoke/MethodHandle" ∧ yX5_gorge.cls ≠ "java/lang/invoke/VarHandle" ∧ (parseMethodDescriptor yX5_gorge.desc).map (fun d => d.parameters.length) = some 0 := by decide +kernel
set_option maxHeartbeats 4000000 in
set_option maxRecDepth 100000 in
theorem cX5_gorge_m (l : Launch) (D : va_G) (aM aMtext aMnerve aMkind aMreadNerve aMreadKind aMpage aMtrial aMbook aMkept aMisKept aMtoldMinute aMtoldHeard aMworth : Nat) (iMtext iMnerve iMkind iMreadNerve iMreadKind iMpage iMisKept : ClassId) (xM_thrown : Int32) (xM_textSize : Int32) (xM_place : Int32) (xM_walkers : Int32) (xM_light : Int32) (xM_water : Int32) (xM_readWalkers : Int32) (xM_readLight : Int32) (xM_readWater : Int32) (xM_acts : Int32) (xM_told : Int32) (xM_seed : Int64) (xM_orderBest : Int32) (xM_orderMany : Int32) (xM_turned : Int32) (xMtext : Nat → Int32) (xMnerve : Nat → Int32) (xMkind : Nat → Int32) (xMreadNerve : Nat → Int32) (xMreadKind : Nat → Int32) (xMpage : Nat → Int32) (xMisKept : Nat → Int32)  (z : Int32 × Int32 × Int32 × Int32 × Int32 × Int32 × Int32 × Int32 × Int32 × Int32 × (Nat → Int32) × (Nat → Int32) × (Nat → Int32) × (Nat → Int32) × (Nat → Int32) × (Nat → Int32)) (hf : fX5_gorge xM_thrown xM_textSize xM_place xM_walkers xM_light xM_water xM_readWalkers xM_readLight xM_readWater xM_acts xMtext xMnerve xMkind xMreadNerve xMreadKind xMpage xMisKept = some z) : ∀ sz : Nat, Met l yX5_gorge wsX5_gorge ({ frames := 3, cells := 0, slots := 0, locals := 69 } : Room) (kPre D [(iMtext, .int), (iMnerve, .int), (iMkind, .int), (iMreadNerve, .int), (iMreadKind, .int), (iMpage, .int), (iMisKept, .boolean)] [oO aM 4 [.int xM_thrown, .ref aMtext, .int xM_textSize, .int xM_place, .int xM_walkers, .int xM_light, .int xM_water, .ref aMnerve, .ref aMkind, .int xM_readWalkers, .int xM_readLight, .int xM_readWater, .ref aMreadNerve, .ref aMreadKind, .ref aMpage, .ref aMtrial, .ref aMbook, .int xM_acts, .ref aMkept, .ref aMisKept, .int xM_told, .ref aMtoldMinute, .ref aMtoldHeard, .long xM_seed, .int xM_orderBest, .int xM_orderMany, .ref aMworth, .int xM_turned], oI aMtext iMtext 32 xMtext, oI aMnerve iMnerve 5 xMnerve, oI aMkind iMkind 5 xMkind, oI aMreadNerve iMreadNerve 5 xMreadNerve, oI aMreadKind iMreadKind 5 xMreadKind, oI aMpage iMpage 13 xMpage, oI aMisKept iMisKept 2 xMisKept] sz [.ref aM]) (kQi D [(iMtext, .int), (iMnerve, .int), (iMkind, .int), (iMreadNerve, .int), (iMreadKind, .int), (iMpage, .int), (iMisKept, .boolean)] [oO aM 4 [.int xM_thrown, .ref aMtext, .int xM_textSize, .int xM_place, .int xM_walkers, .int xM_light, .int xM_water, .ref aMnerve, .ref aMkind, .int xM_readWalkers, .int xM_readLight, .int xM_readWater, .ref aMreadNerve, .ref aMreadKind, .ref aMpage, .ref aMtrial, .ref aMbook, .int xM_acts, .ref aMkept, .ref aMisKept, .int xM_told, .ref aMtoldMinute, .ref aMtoldHeard, .long xM_seed, .int xM_orderBest, .int xM_orderMany, .ref aMworth, .int xM_turned], oI aMtext iMtext 32 xMtext, oI aMnerve iMnerve 5 xMnerve, oI aMkind iMkind 5 xMkind, oI aMreadNerve iMreadNerve 5 xMreadNerve, oI aMreadKind iMreadKind 5 xMreadKind, oI aMpage iMpage 13 xMpage, oI aMisKept iMisKept 2 xMisKept] sz [oO aM 4 [.int z.2.1, .ref aMtext, .int xM_textSize, .int z.2.2.1, .int z.2.2.2.1, .int z.2.2.2.2.1, .int z.2.2.2.2.2.1, .ref aMnerve, .ref aMkind, .int z.2.2.2.2.2.2.1, .int z.2.2.2.2.2.2.2.1, .int z.2.2.2.2.2.2.2.2.1, .ref aMreadNerve, .ref aMreadKind, .ref aMpage, .ref aMtrial, .ref aMbook, .int z.2.2.2.2.2.2.2.2.2.1, .ref aMkept, .ref aMisKept, .int xM_told, .ref aMtoldMinute, .ref aMtoldHeard, .long xM_seed, .int xM_orderBest, .int xM_orderMany, .ref aMworth, .int xM_turned], oI aMtext iMtext 32 xMtext, oI aMnerve iMnerve 5 z.2.2.2.2.2.2.2.2.2.2.1, oI aMkind iMkind 5 z.2.2.2.2.2.2.2.2.2.2.2.1, oI aMreadNerve iMreadNerve 5 z.2.2.2.2.2.2.2.2.2.2.2.2.1, oI aMreadKind iMreadKind 5 z.2.2.2.2.2.2.2.2.2.2.2.2.2.1, oI aMpage iMpage 13 z.2.2.2.2.2.2.2.2.2.2.2.2.2.2.1, oI aMisKept iMisKept 2 z.2.2.2.2.2.2.2.2.2.2.2.2.2.2.2] z.1) 0 0 (va_A [oO aM 4 [.int xM_thrown, .ref aMtext, .int xM_textSize, .int xM_place, .int xM_walkers, .int xM_light, .int xM_water, .ref aMnerve, .ref aMkind, .int xM_readWalkers, .int xM_readLight, .int xM_readWater, .ref aMreadNerve, .ref aMreadKind, .ref aMpage, .ref aMtrial, .ref aMbook, .int xM_acts, .ref aMkept, .ref aMisKept, .int xM_told, .ref aMtoldMinute, .ref aMtoldHeard, .long xM_seed, .int xM_orderBest, .int xM_orderMany, .ref aMworth, .int xM_turned], oI aMtext iMtext 32 xMtext, oI aMnerve iMnerve 5 xMnerve, oI aMkind iMkind 5 xMkind, oI aMreadNerve iMreadNerve 5 xMreadNerve, oI aMreadKind iMreadKind 5 xMreadKind, oI aMpage iMpage 13 xMpage, oI aMisKept iMisKept 2 xMisKept] sz) := by
  refine kMet_i (own := RX5) z (fun u => u.1) (fun u => [oO aM 4 [.int u.2.1, .ref aMtext, .int xM_textSize, .int u.2.2.1, .int u.2.2.2.1, .int u.2.2.2.2.1, .int u.2.2.2.2.2.1, .ref aMnerve, .ref aMkind, .int u.2.2.2.2.2.2.1, .int u.2.2.2.2.2.2.2.1, .int u.2.2.2.2.2.2.2.2.1, .ref aMreadNerve, .ref aMreadKind, .ref aMpage, .ref aMtrial, .ref aMbook, .int u.2.2.2.2.2.2.2.2.2.1, .ref aMkept, .ref aMisKept, .int xM_told, .ref aMtoldMinute, .ref aMtoldHeard, .long xM_seed, .int xM_orderBest, .int xM_orderMany, .ref aMworth, .int xM_turned], oI aMtext iMtext 32 xMtext, oI aMnerve iMnerve 5 u.2.2.2.2.2.2.2.2.2.2.1, oI aMkind iMkind 5 u.2.2.2.2.2.2.2.2.2.2.2.1, oI aMreadNerve iMreadNerve 5 u.2.2.2.2.2.2.2.2.2.2.2.2.1, oI aMreadKind iMreadKind 5 u.2.2.2.2.2.2.2.2.2.2.2.2.2.1, oI aMpage iMpage 13 u.2.2.2.2.2.2.2.2.2.2.2.2.2.2.1, oI aMisKept iMisKept 2 u.2.2.2.2.2.2.2.2.2.2.2.2.2.2.2]) rfl (by decide) rfl ⟨rfl, rfl⟩ (Nat.le_of_ble_eq_true rfl) ?_
  intro X hXl hXD hC hQ
  subst hXl
  subst hXD
  change kG X 0 [(0, .ref aM)] [] [oO aM 4 [.int xM_thrown, .ref aMtext, .int xM_textSize, .int xM_place, .int xM_walkers, .int xM_light, .int xM_water, .ref aMnerve, .ref aMkind, .int xM_readWalkers, .int xM_readLight, .int xM_readWater, .ref aMreadNerve, .ref aMreadKind, .ref aMpage, .ref aMtrial, .ref aMbook, .int xM_acts, .ref aMkept, .ref aMisKept, .int xM_told, .ref aMtoldMinute, .ref aMtoldHeard, .long xM_seed, .int xM_orderBest, .int xM_orderMany, .ref aMworth, .int xM_turned], oI aMtext iMtext 32 xMtext, oI aMnerve iMnerve 5 xMnerve, oI aMkind iMkind 5 xMkind, oI aMreadNerve iMreadNerve 5 xMreadNerve, oI aMreadKind iMreadKind 5 xMreadKind, oI aMpage iMpage 13 xMpage, oI aMisKept iMisKept 2 xMisKept]
  have hinX5 : ∀ w ∈ wsX50, w ∈ wsX5_gorge := fun _ h => List.mem_cons_of_mem _ (List.mem_append_right _ h)
  have t64 : ∀  (n : Nat) (j1 : Int32) (xM_thrown : Int32) (xM_place : Int32) (xM_walkers : Int32) (xM_light : Int32) (xM_water : Int32) (xM_readWalkers : Int32) (xM_readLight : Int32) (xM_readWater : Int32) (xM_acts : Int32) (xMnerve : Nat → Int32) (xMkind : Nat → Int32) (xMreadNerve : Nat → Int32) (xMreadKind : Nat → Int32) (xMpage : Nat → Int32) (xMisKept : Nat → Int32), lp (fun _ _ _ _ _ _ _ _ _ _ _ _ _ _ _ _ => none) (fX5_gorge_b64_S xM_textSize xMtext ) n j1 xM_thrown xM_place xM_walkers xM_light xM_water xM_readWalkers xM_readLight xM_readWater xM_acts xMnerve xMkind xMreadNerve xMreadKind xMpage xMisKept = some z → kG X 64 [(0, .ref aM), (1, .int j1)] [] [oO aM 4 [.int xM_thrown, .ref aMtext, .int xM_textSize, .int xM_place, .int xM_walkers, .int xM_light, .int xM_water, .ref aMnerve, .ref aMkind, .int xM_readWalkers, .int xM_readLight, .int xM_readWater, .ref aMreadNerve, .ref aMreadKind, .ref aMpage, .ref aMtrial, .ref aMbook, .int xM_acts, .ref aMkept, .ref aMisKept, .int xM_told, .ref aMtoldMinute, .ref aMtoldHeard, .long xM_seed, .int xM_orderBest, .int xM_orderMany, .ref aMworth, .int xM_turned], oI aMtext iMtext 32 xMtext, oI aMnerve iMnerve 5 xMnerve, oI aMkind iMkind 5 xMkind, oI aMreadNerve iMreadNerve 5 xMreadNerve, oI aMreadKind iMreadKind 5 xMreadKind, oI aMpage iMpage 13 xMpage, oI aMisKept iMisKept 2 xMisKept] := by
    intro  n
    induction n with
    | zero => intro j1 xM_thrown xM_place xM_walkers xM_light xM_water xM_readWalkers xM_readLight xM_readWater xM_acts xMnerve xMkind xMreadNerve xMreadKind xMpage xMisKept hf; cases hf
    | succ n hk64 =>
      intro j1 xM_thrown xM_place xM_walkers xM_light xM_water xM_readWalkers xM_readLight xM_readWater xM_acts xMnerve xMkind xMreadNerve xMreadKind xMpage xMisKept hf
      rw [lp_s] at hf
      revert hf hk64
      generalize lp (fun _ _ _ _ _ _ _ _ _ _ _ _ _ _ _ _ => none) (fX5_gorge_b64_S xM_textSize xMtext ) n = k64
      intro hk64 hf
      unfold fX5_gorge_b64_S at hf
      refine g_iload_n hC 1 dX5_gorge_64 rfl rfl ?_
      refine g_aload_n hC 0 dX5_gorge_65 rfl rfl ?_
      refine g_get (C := RX5) (T := TX5) (N := 28) (v := .int xM_walkers) hC hinX5 0 4 rfl rfl (by decide) (List.mem_of_getElem? (i := 3) rfl) rfl dX5_gorge_66 ?_
      refine g_icmp_ge (tgt := 109) hC dX5_gorge_69 (by decide) (fun hc => ?_) (fun hc => ?_)
      · replace hf := gd_t hc hf
        refine g_aload_n hC 0 dX5_gorge_109 rfl rfl ?_
        refine g_get (C := RX5) (T := TX5) (N := 28) (v := .ref aMpage) hC hinX5 0 14 rfl rfl (by decide) (List.mem_of_getElem? (i := 8) rfl) rfl dX5_gorge_110 ?_
        refine g_iconst (v := (5 : Int32)) hC dX5_gorge_113 ci_5 ?_
        refine g_aload_n hC 0 dX5_gorge_114 rfl rfl ?_
        refine g_get (C := RX5) (T := TX5) (N := 28) (v := .int xM_walkers) hC hinX5 0 4 rfl rfl (by decide) (List.mem_of_getElem? (i := 3) rfl) rfl dX5_gorge_115 ?_
        obtain ⟨hg, hf⟩ := gd_ga hf
        refine g_iast (ws' := [oO aM 4 [.int xM_thrown, .ref aMtext, .int xM_textSize, .int xM_place, .int xM_walkers, .int xM_light, .int xM_water, .ref aMnerve, .ref aMkind, .int xM_readWalkers, .int xM_readLight, .int xM_readWater, .ref aMreadNerve, .ref aMreadKind, .ref aMpage, .ref aMtrial, .ref aMbook, .int xM_acts, .ref aMkept, .ref aMisKept, .int xM_told, .ref aMtoldMinute, .ref aMtoldHeard, .long xM_seed, .int xM_orderBest, .int xM_orderMany, .ref aMworth, .int xM_turned], oI aMtext iMtext 32 xMtext, oI aMnerve iMnerve 5 xMnerve, oI aMkind iMkind 5 xMkind, oI aMreadNerve iMreadNerve 5 xMreadNerve, oI aMreadKind iMreadKind 5 xMreadKind, oI aMpage iMpage 13 (upd xMpage (5 : Int32).toNatClampNeg xM_walkers), oI aMisKept iMisKept 2 xMisKept]) hC 6 5 hg rfl rfl dX5_gorge_118 rfl ?_
        refine g_aload_n hC 0 dX5_gorge_119 rfl rfl ?_
        refine g_iconst (v := (0 : Int32)) hC dX5_gorge_120 ci_0 ?_
        refine g_put (C := RX5) (T := TX5) (N := 28) (ty := .int) (ws' := [oO aM 4 [.int xM_thrown, .ref aMtext, .int xM_textSize, .int xM_place, .int xM_walkers, .int xM_light, .int xM_water, .ref aMnerve, .ref aMkind, .int xM_readWalkers, .int xM_readLight, .int xM_readWater, .ref aMreadNerve, .ref aMreadKind, .ref aMpage, .ref aMtrial, .ref aMbook, .int (0 : Int32), .ref aMkept, .ref aMisKept, .int xM_told, .ref aMtoldMinute, .ref aMtoldHeard, .long xM_seed, .int xM_orderBest, .int xM_orderMany, .ref aMworth, .int xM_turned], oI aMtext iMtext 32 xMtext, oI aMnerve iMnerve 5 xMnerve, oI aMkind iMkind 5 xMkind, oI aMreadNerve iMreadNerve 5 xMreadNerve, oI aMreadKind iMreadKind 5 xMreadKind, oI aMpage iMpage 13 (upd xMpage (5 : Int32).toNatClampNeg xM_walkers), oI aMisKept iMisKept 2 xMisKept]) hC tyX5_ok nmX5 hinX5 0 17 rfl rfl (by decide) (List.mem_of_getElem? (i := 13) rfl) rfl rfl rfl rfl (Nat.le_of_ble_eq_true rfl) dX5_gorge_121 rfl ?_
        refine g_aload_n hC 0 dX5_gorge_124 rfl rfl ?_
        refine g_get (C := RX5) (T := TX5) (N := 28) (v := .ref aMisKept) hC hinX5 0 19 rfl rfl (by decide) (List.mem_of_getElem? (i := 14) rfl) rfl dX5_gorge_125 ?_
        refine g_iconst (v := (0 : Int32)) hC dX5_gorge_128 ci_0 ?_
        refine g_iconst (v := (0 : Int32)) hC dX5_gorge_129 ci_0 ?_
        obtain ⟨hg, hf⟩ := gd_ga hf
        refine g_zast (ws' := [oO aM 4 [.int xM_thrown, .ref aMtext, .int xM_textSize, .int xM_place, .int xM_walkers, .int xM_light, .int xM_water, .ref aMnerve, .ref aMkind, .int xM_readWalkers, .int xM_readLight, .int xM_readWater, .ref aMreadNerve, .ref aMreadKind, .ref aMpage, .ref aMtrial, .ref aMbook, .int (0 : Int32), .ref aMkept, .ref aMisKept, .int xM_told, .ref aMtoldMinute, .ref aMtoldHeard, .long xM_seed, .int xM_orderBest, .int xM_orderMany, .ref aMworth, .int xM_turned], oI aMtext iMtext 32 xMtext, oI aMnerve iMnerve 5 xMnerve, oI aMkind iMkind 5 xMkind, oI aMreadNerve iMreadNerve 5 xMreadNerve, oI aMreadKind iMreadKind 5 xMreadKind, oI aMpage iMpage 13 (upd xMpage (5 : Int32).toNatClampNeg xM_walkers), oI aMisKept iMisKept 2 (upd xMisKept (0 : Int32).toNatClampNeg (vp_nar .boolean (0 : Int32)))]) hC 7 6 hg rfl rfl dX5_gorge_130 rfl ?_
        refine g_aload_n hC 0 dX5_gorge_131 rfl rfl ?_
        refine g_get (C := RX5) (T := TX5) (N := 28) (v := .ref aMisKept) hC hinX5 0 19 rfl rfl (by decide) (List.mem_of_getElem? (i := 14) rfl) rfl dX5_gorge_132 ?_
        refine g_iconst (v := (1 : Int32)) hC dX5_gorge_135 ci_1 ?_
        refine g_iconst (v := (0 : Int32)) hC dX5_gorge_136 ci_0 ?_
        obtain ⟨hg, hf⟩ := gd_ga hf
        refine g_zast (ws' := [oO aM 4 [.int xM_thrown, .ref aMtext, .int xM_textSize, .int xM_place, .int xM_walkers, .int xM_light, .int xM_water, .ref aMnerve, .ref aMkind, .int xM_readWalkers, .int xM_readLight, .int xM_readWater, .ref aMreadNerve, .ref aMreadKind, .ref aMpage, .ref aMtrial, .ref aMbook, .int (0 : Int32), .ref aMkept, .ref aMisKept, .int xM_told, .ref aMtoldMinute, .ref aMtoldHeard, .long xM_seed, .int xM_orderBest, .int xM_orderMany, .ref aMworth, .int xM_turned], oI aMtext iMtext 32 xMtext, oI aMnerve iMnerve 5 xMnerve, oI aMkind iMkind 5 xMkind, oI aMreadNerve iMreadNerve 5 xMreadNerve, oI aMreadKind iMreadKind 5 xMreadKind, oI aMpage iMpage 13 (upd xMpage (5 : Int32).toNatClampNeg xM_walkers), oI aMisKept iMisKept 2 (upd (upd xMisKept (0 : Int32).toNatClampNeg (vp_nar .boolean (0 : Int32))) (1 : Int32).toNatClampNeg (vp_nar .boolean (0 : Int32)))]) hC 7 6 hg rfl rfl dX5_gorge_137 rfl ?_
        refine g_aload_n hC 0 dX5_gorge_138 rfl rfl ?_
        refine g_get (C := RX5) (T := TX5) (N := 28) (v := .int xM_walkers) hC hinX5 0 4 rfl rfl (by decide) (List.mem_of_getElem? (i := 3) rfl) rfl dX5_gorge_139 ?_
        exact hQ (xM_walkers, xM_thrown, xM_place, xM_walkers, xM_light, xM_water, xM_readWalkers, xM_readLight, xM_readWater, (0 : Int32), xMnerve, xMkind, xMreadNerve, xMreadKind, (upd xMpage (5 : Int32).toNatClampNeg xM_walkers), (upd (upd xMisKept (0 : Int32).toNatClampNeg (vp_nar .boolean (0 : Int32))) (1 : Int32).toNatClampNeg (vp_nar .boolean (0 : Int32)))) _ _ (gd_s hf) dX5_gorge_142
      · replace hf := gd_f hc hf
        refine g_aload_n hC 0 dX5_gorge_72 rfl rfl ?_
        refine g_get (C := RX5) (T := TX5) (N := 28) (v := .ref aMnerve) hC hinX5 0 7 rfl rfl (by decide) (List.mem_of_getElem? (i := 9) rfl) rfl dX5_gorge_73 ?_
        refine g_iload_n hC 1 dX5_gorge_76 rfl rfl ?_
        refine g_aload_n hC 0 dX5_gorge_77 rfl rfl ?_
        refine g_get (C := RX5) (T := TX5) (N := 28) (v := .ref aMreadNerve) hC hinX5 0 12 rfl rfl (by decide) (List.mem_of_getElem? (i := 10) rfl) rfl dX5_gorge_78 ?_
        refine g_iload_n hC 1 dX5_gorge_81 rfl rfl ?_
        obtain ⟨hg, hf⟩ := gd_ga hf
        refine g_iald hC 4 3 hg rfl rfl dX5_gorge_82 ?_
        obtain ⟨hg, hf⟩ := gd_ga hf
        refine g_iast (ws' := [oO aM 4 [.int xM_thrown, .ref aMtext, .int xM_textSize, .int xM_place, .int xM_walkers, .int xM_light, .int xM_water, .ref aMnerve, .ref aMkind, .int xM_readWalkers, .int xM_readLight, .int xM_readWater, .ref aMreadNerve, .ref aMreadKind, .ref aMpage, .ref aMtrial, .ref aMbook, .int xM_acts, .ref aMkept, .ref aMisKept, .int xM_told, .ref aMtoldMinute, .ref aMtoldHeard, .long xM_seed, .int xM_orderBest, .int xM_orderMany, .ref aMworth, .int xM_turned], oI aMtext iMtext 32 xMtext, oI aMnerve iMnerve 5 (upd xMnerve j1.toNatClampNeg (xMreadNerve j1.toNatClampNeg)), oI aMkind iMkind 5 xMkind, oI aMreadNerve iMreadNerve 5 xMreadNerve, oI aMreadKind iMreadKind 5 xMreadKind, oI aMpage iMpage 13 xMpage, oI aMisKept iMisKept 2 xMisKept]) hC 2 1 hg rfl rfl dX5_gorge_83 rfl ?_
        refine g_aload_n hC 0 dX5_gorge_84 rfl rfl ?_
        refine g_get (C := RX5) (T := TX5) (N := 28) (v := .ref aMkind) hC hinX5 0 8 rfl rfl (by decide) (List.mem_of_getElem? (i := 11) rfl) rfl dX5_gorge_85 ?_
        refine g_iload_n hC 1 dX5_gorge_88 rfl rfl ?_
        refine g_aload_n hC 0 dX5_gorge_89 rfl rfl ?_
        refine g_get (C := RX5) (T := TX5) (N := 28) (v := .ref aMreadKind) hC hinX5 0 13 rfl rfl (by decide) (List.mem_of_getElem? (i := 12) rfl) rfl dX5_gorge_90 ?_
        refine g_iload_n hC 1 dX5_gorge_93 rfl rfl ?_
        obtain ⟨hg, hf⟩ := gd_ga hf
        refine g_iald hC 5 4 hg rfl rfl dX5_gorge_94 ?_
        obtain ⟨hg, hf⟩ := gd_ga hf
        refine g_iast (ws' := [oO aM 4 [.int xM_thrown, .ref aMtext, .int xM_textSize, .int xM_place, .int xM_walkers, .int xM_light, .int xM_water, .ref aMnerve, .ref aMkind, .int xM_readWalkers, .int xM_readLight, .int xM_readWater, .ref aMreadNerve, .ref aMreadKind, .ref aMpage, .ref aMtrial, .ref aMbook, .int xM_acts, .ref aMkept, .ref aMisKept, .int xM_told, .ref aMtoldMinute, .ref aMtoldHeard, .long xM_seed, .int xM_orderBest, .int xM_orderMany, .ref aMworth, .int xM_turned], oI aMtext iMtext 32 xMtext, oI aMnerve iMnerve 5 (upd xMnerve j1.toNatClampNeg (xMreadNerve j1.toNatClampNeg)), oI aMkind iMkind 5 (upd xMkind j1.toNatClampNeg (xMreadKind j1.toNatClampNeg)), oI aMreadNerve iMreadNerve 5 xMreadNerve, oI aMreadKind iMreadKind 5 xMreadKind, oI aMpage iMpage 13 xMpage, oI aMisKept iMisKept 2 xMisKept]) hC 3 2 hg rfl rfl dX5_gorge_95 rfl ?_
        refine g_aload_n hC 0 dX5_gorge_96 rfl rfl ?_
        refine g_get (C := RX5) (T := TX5) (N := 28) (v := .ref aMpage) hC hinX5 0 14 rfl rfl (by decide) (List.mem_of_getElem? (i := 8) rfl) rfl dX5_gorge_97 ?_
        refine g_iload_n hC 1 dX5_gorge_100 rfl rfl ?_
        refine g_iload_n hC 1 dX5_gorge_101 rfl rfl ?_
        obtain ⟨hg, hf⟩ := gd_ga hf
        refine g_iast (ws' := [oO aM 4 [.int xM_thrown, .ref aMtext, .int xM_textSize, .int xM_place, .int xM_walkers, .int xM_light, .int xM_water, .ref aMnerve, .ref aMkind, .int xM_readWalkers, .int xM_readLight, .int xM_readWater, .ref aMreadNerve, .ref aMreadKind, .ref aMpage, .ref aMtrial, .ref aMbook, .int xM_acts, .ref aMkept, .ref aMisKept, .int xM_told, .ref aMtoldMinute, .ref aMtoldHeard, .long xM_seed, .int xM_orderBest, .int xM_orderMany, .ref aMworth, .int xM_turned], oI aMtext iMtext 32 xMtext, oI aMnerve iMnerve 5 (upd xMnerve j1.toNatClampNeg (xMreadNerve j1.toNatClampNeg)), oI aMkind iMkind 5 (upd xMkind j1.toNatClampNeg (xMreadKind j1.toNatClampNeg)), oI aMreadNerve iMreadNerve 5 xMreadNerve, oI aMreadKind iMreadKind 5 xMreadKind, oI aMpage iMpage 13 (upd xMpage j1.toNatClampNeg j1), oI aMisKept iMisKept 2 xMisKept]) hC 6 5 hg rfl rfl dX5_gorge_102 rfl ?_
        refine g_iinc (v := (j1 + (1 : Int32))) (lv' := [(1, .int (j1 + (1 : Int32))), (0, .ref aM)]) hC 1 dX5_gorge_103 rfl (ii _ ci_1) (by decide) rfl ?_
        refine g_goto (tgt := 64) hC dX5_gorge_106 (by decide) ?_
        refine g_lv (lv' := [(0, .ref aM), (1, .int (j1 + (1 : Int32)))]) [1, 0] rfl ?_
        exact hk64 (j1 + (1 : Int32)) xM_thrown xM_place xM_walkers xM_light xM_water xM_readWalkers xM_readLight xM_readWater xM_acts (upd xMnerve j1.toNatClampNeg (xMreadNerve j1.toNatClampNeg)) (upd xMkind j1.toNatClampNeg (xMreadKind j1.toNatClampNeg)) xMreadNerve xMreadKind (upd xMpage j1.toNatClampNeg j1) xMisKept hf
  have t43 : ∀  (n : Nat) (j1 : Int32) (xM_thrown : Int32) (xM_place : Int32) (xM_walkers : Int32) (xM_light : Int32) (xM_water : Int32) (xM_readWalkers : Int32) (xM_readLight : Int32) (xM_readWater : Int32) (xM_acts : Int32) (xMnerve : Nat → Int32) (xMkind : Nat → Int32) (xMreadNerve : Nat → Int32) (xMreadKind : Nat → Int32) (xMpage : Nat → Int32) (xMisKept : Nat → Int32), lp (fun _ _ _ _ _ _ _ _ _ _ _ _ _ _ _ _ => none) (fX5_gorge_b43_S xM_textSize xMtext ) n j1 xM_thrown xM_place xM_walkers xM_light xM_water xM_readWalkers xM_readLight xM_readWater xM_acts xMnerve xMkind xMreadNerve xMreadKind xMpage xMisKept = some z → kG X 43 [(0, .ref aM), (1, .int j1)] [] [oO aM 4 [.int xM_thrown, .ref aMtext, .int xM_textSize, .int xM_place, .int xM_walkers, .int xM_light, .int xM_water, .ref aMnerve, .ref aMkind, .int xM_readWalkers, .int xM_readLight, .int xM_readWater, .ref aMreadNerve, .ref aMreadKind, .ref aMpage, .ref aMtrial, .ref aMbook, .int xM_acts, .ref aMkept, .ref aMisKept, .int xM_told, .ref aMtoldMinute, .ref aMtoldHeard, .long xM_seed, .int xM_orderBest, .int xM_orderMany, .ref aMworth, .int xM_turned], oI aMtext iMtext 32 xMtext, oI aMnerve iMnerve 5 xMnerve, oI aMkind iMkind 5 xMkind, oI aMreadNerve iMreadNerve 5 xMreadNerve, oI aMreadKind iMreadKind 5 xMreadKind, oI aMpage iMpage 13 xMpage, oI aMisKept iMisKept 2 xMisKept] := by
    intro  n
    induction n with
    | zero => intro j1 xM_thrown xM_place xM_walkers xM_light xM_water xM_readWalkers xM_readLight xM_readWater xM_acts xMnerve xMkind xMreadNerve xMreadKind xMpage xMisKept hf; cases hf
    | succ n hk43 =>
      intro j1 xM_thrown xM_place xM_walkers xM_light xM_water xM_readWalkers xM_readLight xM_readWater xM_acts xMnerve xMkind xMreadNerve xMreadKind xMpage xMisKept hf
      rw [lp_s] at hf
      revert hf hk43
      generalize lp (fun _ _ _ _ _ _ _ _ _ _ _ _ _ _ _ _ => none) (fX5_gorge_b43_S xM_textSize xMtext ) n = k43
      intro hk43 hf
      unfold fX5_gorge_b43_S at hf
      refine g_iload_n hC 1 dX5_gorge_43 rfl rfl ?_
      refine g_bipush (v := (13 : Int32)) hC dX5_gorge_44 cb_13 ?_
      refine g_icmp_ge (tgt := 62) hC dX5_gorge_46 (by decide) (fun hc => ?_) (fun hc => ?_)
      · replace hf := gd_t hc hf
        refine g_iconst (v := (0 : Int32)) hC dX5_gorge_62 ci_0 ?_
        refine g_istore_n (lv' := [(1, .int (0 : Int32)), (0, .ref aM)]) hC dX5_gorge_63 rfl (by decide) rfl ?_
        refine g_lv (lv' := [(0, .ref aM), (1, .int (0 : Int32))]) [1, 0] rfl ?_
        exact t64  fu (0 : Int32) xM_thrown xM_place xM_walkers xM_light xM_water xM_readWalkers xM_readLight xM_readWater xM_acts xMnerve xMkind xMreadNerve xMreadKind xMpage xMisKept hf
      · replace hf := gd_f hc hf
        refine g_aload_n hC 0 dX5_gorge_49 rfl rfl ?_
        refine g_get (C := RX5) (T := TX5) (N := 28) (v := .ref aMpage) hC hinX5 0 14 rfl rfl (by decide) (List.mem_of_getElem? (i := 8) rfl) rfl dX5_gorge_50 ?_
        refine g_iload_n hC 1 dX5_gorge_53 rfl rfl ?_
        refine g_iconst (v := (0 : Int32)) hC dX5_gorge_54 ci_0 ?_
        obtain ⟨hg, hf⟩ := gd_ga hf
        refine g_iast (ws' := [oO aM 4 [.int xM_thrown, .ref aMtext, .int xM_textSize, .int xM_place, .int xM_walkers, .int xM_light, .int xM_water, .ref aMnerve, .ref aMkind, .int xM_readWalkers, .int xM_readLight, .int xM_readWater, .ref aMreadNerve, .ref aMreadKind, .ref aMpage, .ref aMtrial, .ref aMbook, .int xM_acts, .ref aMkept, .ref aMisKept, .int xM_told, .ref aMtoldMinute, .ref aMtoldHeard, .long xM_seed, .int xM_orderBest, .int xM_orderMany, .ref aMworth, .int xM_turned], oI aMtext iMtext 32 xMtext, oI aMnerve iMnerve 5 xMnerve, oI aMkind iMkind 5 xMkind, oI aMreadNerve iMreadNerve 5 xMreadNerve, oI aMreadKind iMreadKind 5 xMreadKind, oI aMpage iMpage 13 (upd xMpage j1.toNatClampNeg (0 : Int32)), oI aMisKept iMisKept 2 xMisKept]) hC 6 5 hg rfl rfl dX5_gorge_55 rfl ?_
        refine g_iinc (v := (j1 + (1 : Int32))) (lv' := [(1, .int (j1 + (1 : Int32))), (0, .ref aM)]) hC 1 dX5_gorge_56 rfl (ii _ ci_1) (by decide) rfl ?_
        refine g_goto (tgt := 43) hC dX5_gorge_59 (by decide) ?_
        refine g_lv (lv' := [(0, .ref aM), (1, .int (j1 + (1 : Int32)))]) [1, 0] rfl ?_
        exact hk43 (j1 + (1 : Int32)) xM_thrown xM_place xM_walkers xM_light xM_water xM_readWalkers xM_readLight xM_readWater xM_acts xMnerve xMkind xMreadNerve xMreadKind (upd xMpage j1.toNatClampNeg (0 : Int32)) xMisKept hf
  unfold fX5_gorge at hf
  refine g_aload_n hC 0 dX5_gorge_0 rfl rfl ?_
  refine g_iconst (v := (0 : Int32)) hC dX5_gorge_1 ci_0 ?_
  refine g_put (C := RX5) (T := TX5) (N := 28) (ty := .int) (ws' := [oO aM 4 [.int (0 : Int32), .ref aMtext, .int xM_textSize, .int xM_place, .int xM_walkers, .int xM_light, .int xM_water, .ref aMnerve, .ref aMkind, .int xM_readWalkers, .int xM_readLight, .int xM_readWater, .ref aMreadNerve, .ref aMreadKind, .ref aMpage, .ref aMtrial, .ref aMbook, .int xM_acts, .ref aMkept, .ref aMisKept, .int xM_told, .ref aMtoldMinute, .ref aMtoldHeard, .long xM_seed, .int xM_orderBest, .int xM_orderMany, .ref aMworth, .int xM_turned], oI aMtext iMtext 32 xMtext, oI aMnerve iMnerve 5 xMnerve, oI aMkind iMkind 5 xMkind, oI aMreadNerve iMreadNerve 5 xMreadNerve, oI aMreadKind iMreadKind 5 xMreadKind, oI aMpage iMpage 13 xMpage, oI aMisKept iMisKept 2 xMisKept]) hC tyX5_ok nmX5 hinX5 0 0 rfl rfl (by decide) (List.mem_of_getElem? (i := 1) rfl) rfl rfl rfl rfl (Nat.le_of_ble_eq_true rfl) dX5_gorge_2 rfl ?_
  refine g_aload_n hC 0 dX5_gorge_5 rfl rfl ?_
  obtain ⟨z6, hz6, hf⟩ := gd_b hf
  refine g_callVi (wr := [oI aMnerve iMnerve 5 xMnerve, oI aMkind iMkind 5 xMkind, oI aMpage iMpage 13 xMpage, oI aMisKept iMisKept 2 xMisKept]) (wn := [oO aM 4 [.int (0 : Int32), .ref aMtext, .int xM_textSize, .int z6.2.1, .int xM_walkers, .int xM_light, .int xM_water, .ref aMnerve, .ref aMkind, .int z6.2.2.1, .int z6.2.2.2.1, .int z6.2.2.2.2.1, .ref aMreadNerve, .ref aMreadKind, .ref aMpage, .ref aMtrial, .ref aMbook, .int xM_acts, .ref aMkept, .ref aMisKept, .int xM_told, .ref aMtoldMinute, .ref aMtoldHeard, .long xM_seed, .int xM_orderBest, .int xM_orderMany, .ref aMworth, .int xM_turned], oI aMtext iMtext 32 xMtext, oI aMnerve iMnerve 5 xMnerve, oI aMkind iMkind 5 xMkind, oI aMreadNerve iMreadNerve 5 z6.2.2.2.2.2.1, oI aMreadKind iMreadKind 5 z6.2.2.2.2.2.2, oI aMpage iMpage 13 xMpage, oI aMisKept iMisKept 2 xMisKept]) hC [] (cX5_readGorge_m (kl X) (kD X) aM aMtext aMnerve aMkind aMreadNerve aMreadKind aMpage aMtrial aMbook aMkept aMisKept aMtoldMinute aMtoldHeard aMworth iMtext iMreadNerve iMreadKind (0 : Int32) xM_textSize xM_place xM_walkers xM_light xM_water xM_readWalkers xM_readLight xM_readWater xM_acts xM_told xM_seed xM_orderBest xM_orderMany xM_turned xMtext xMreadNerve xMreadKind z6 hz6) gX5_gorge_X5_readGorge rfl kyX5_readGorge rfl rfl rfl (q0 := 0) rfl [0, 1, 4, 5] [2, 3, 6, 7] [0, 3, 4] [4, 5, 0, 1, 6, 7, 2, 3] rfl rfl rfl rfl (by decide) rfl rfl rfl ⟨rfl, rfl⟩ ⟨Nat.le_of_ble_eq_true rfl, Nat.le_of_ble_eq_true rfl⟩ (Nat.le_of_ble_eq_true rfl) rfl dX5_gorge_6 ?_
  refine g_bipush (v := (-9 : Int32)) hC dX5_gorge_9 cb_m9 ?_
  refine g_icmp_eq (tgt := 17) hC dX5_gorge_11 (by decide) (fun hc => ?_) (fun hc => ?_)
  · replace hf := gd_t hc hf
    refine g_aload_n hC 0 dX5_gorge_17 rfl rfl ?_
    refine g_aload_n hC 0 dX5_gorge_18 rfl rfl ?_
    refine g_get (C := RX5) (T := TX5) (N := 28) (v := .int z6.2.2.1) hC hinX5 0 9 rfl rfl (by decide) (List.mem_of_getElem? (i := 2) rfl) rfl dX5_gorge_19 ?_
    refine g_put (C := RX5) (T := TX5) (N := 28) (ty := .int) (ws' := [oO aM 4 [.int (0 : Int32), .ref aMtext, .int xM_textSize, .int z6.2.1, .int z6.2.2.1, .int xM_light, .int xM_water, .ref aMnerve, .ref aMkind, .int z6.2.2.1, .int z6.2.2.2.1, .int z6.2.2.2.2.1, .ref aMreadNerve, .ref aMreadKind, .ref aMpage, .ref aMtrial, .ref aMbook, .int xM_acts, .ref aMkept, .ref aMisKept, .int xM_told, .ref aMtoldMinute, .ref aMtoldHeard, .long xM_seed, .int xM_orderBest, .int xM_orderMany, .ref aMworth, .int xM_turned], oI aMtext iMtext 32 xMtext, oI aMnerve iMnerve 5 xMnerve, oI aMkind iMkind 5 xMkind, oI aMreadNerve iMreadNerve 5 z6.2.2.2.2.2.1, oI aMreadKind iMreadKind 5 z6.2.2.2.2.2.2, oI aMpage iMpage 13 xMpage, oI aMisKept iMisKept 2 xMisKept]) hC tyX5_ok nmX5 hinX5 0 4 rfl rfl (by decide) (List.mem_of_getElem? (i := 3) rfl) rfl rfl rfl rfl (Nat.le_of_ble_eq_true rfl) dX5_gorge_22 rfl ?_
    refine g_aload_n hC 0 dX5_gorge_25 rfl rfl ?_
    refine g_aload_n hC 0 dX5_gorge_26 rfl rfl ?_
    refine g_get (C := RX5) (T := TX5) (N := 28) (v := .int z6.2.2.2.1) hC hinX5 0 10 rfl rfl (by decide) (List.mem_of_getElem? (i := 4) rfl) rfl dX5_gorge_27 ?_
    refine g_put (C := RX5) (T := TX5) (N := 28) (ty := .int) (ws' := [oO aM 4 [.int (0 : Int32), .ref aMtext, .int xM_textSize, .int z6.2.1, .int z6.2.2.1, .int z6.2.2.2.1, .int xM_water, .ref aMnerve, .ref aMkind, .int z6.2.2.1, .int z6.2.2.2.1, .int z6.2.2.2.2.1, .ref aMreadNerve, .ref aMreadKind, .ref aMpage, .ref aMtrial, .ref aMbook, .int xM_acts, .ref aMkept, .ref aMisKept, .int xM_told, .ref aMtoldMinute, .ref aMtoldHeard, .long xM_seed, .int xM_orderBest, .int xM_orderMany, .ref aMworth, .int xM_turned], oI aMtext iMtext 32 xMtext, oI aMnerve iMnerve 5 xMnerve, oI aMkind iMkind 5 xMkind, oI aMreadNerve iMreadNerve 5 z6.2.2.2.2.2.1, oI aMreadKind iMreadKind 5 z6.2.2.2.2.2.2, oI aMpage iMpage 13 xMpage, oI aMisKept iMisKept 2 xMisKept]) hC tyX5_ok nmX5 hinX5 0 5 rfl rfl (by decide) (List.mem_of_getElem? (i := 5) rfl) rfl rfl rfl rfl (Nat.le_of_ble_eq_true rfl) dX5_gorge_30 rfl ?_
    refine g_aload_n hC 0 dX5_gorge_33 rfl rfl ?_
    refine g_aload_n hC 0 dX5_gorge_34 rfl rfl ?_
    refine g_get (C := RX5) (T := TX5) (N := 28) (v := .int z6.2.2.2.2.1) hC hinX5 0 11 rfl rfl (by decide) (List.mem_of_getElem? (i := 6) rfl) rfl dX5_gorge_35 ?_
    refine g_put (C := RX5) (T := TX5) (N := 28) (ty := .int) (ws' := [oO aM 4 [.int (0 : Int32), .ref aMtext, .int xM_textSize, .int z6.2.1, .int z6.2.2.1, .int z6.2.2.2.1, .int z6.2.2.2.2.1, .ref aMnerve, .ref aMkind, .int z6.2.2.1, .int z6.2.2.2.1, .int z6.2.2.2.2.1, .ref aMreadNerve, .ref aMreadKind, .ref aMpage, .ref aMtrial, .ref aMbook, .int xM_acts, .ref aMkept, .ref aMisKept, .int xM_told, .ref aMtoldMinute, .ref aMtoldHeard, .long xM_seed, .int xM_orderBest, .int xM_orderMany, .ref aMworth, .int xM_turned], oI aMtext iMtext 32 xMtext, oI aMnerve iMnerve 5 xMnerve, oI aMkind iMkind 5 xMkind, oI aMreadNerve iMreadNerve 5 z6.2.2.2.2.2.1, oI aMreadKind iMreadKind 5 z6.2.2.2.2.2.2, oI aMpage iMpage 13 xMpage, oI aMisKept iMisKept 2 xMisKept]) hC tyX5_ok nmX5 hinX5 0 6 rfl rfl (by decide) (List.mem_of_getElem? (i := 7) rfl) rfl rfl rfl rfl (Nat.le_of_ble_eq_true rfl) dX5_gorge_38 rfl ?_
    refine g_iconst (v := (0 : Int32)) hC dX5_gorge_41 ci_0 ?_
    refine g_istore_n (lv' := [(1, .int (0 : Int32)), (0, .ref aM)]) hC dX5_gorge_42 rfl (by decide) rfl ?_
    refine g_lv (lv' := [(0, .ref aM), (1, .int (0 : Int32))]) [1, 0] rfl ?_
    exact t43  fu (0 : Int32) (0 : Int32) z6.2.1 z6.2.2.1 z6.2.2.2.1 z6.2.2.2.2.1 z6.2.2.1 z6.2.2.2.1 z6.2.2.2.2.1 xM_acts xMnerve xMkind z6.2.2.2.2.2.1 z6.2.2.2.2.2.2 xMpage xMisKept hf
  · replace hf := gd_f hc hf
    refine g_bipush (v := (-3 : Int32)) hC dX5_gorge_14 cb_m3 ?_
    exact hQ ((-3 : Int32), (0 : Int32), z6.2.1, xM_walkers, xM_light, xM_water, z6.2.2.1, z6.2.2.2.1, z6.2.2.2.2.1, xM_acts, xMnerve, xMkind, z6.2.2.2.2.2.1, z6.2.2.2.2.2.2, xMpage, xMisKept) _ _ (gd_s hf) dX5_gorge_16
theorem kyX5_rowOf : yX5_rowOf.cls ≠ "java/lang/invoke/MethodHandle" ∧ yX5_rowOf.cls ≠ "java/lang/invoke/VarHandle" ∧ (parseMethodDescriptor yX5_rowOf.desc).map (fun d => d.parameters.length) = some 1 := by decide +kernel
set_option maxHeartbeats 4000000 in
set_option maxRecDepth 100000 in
theorem cX5_rowOf_m (l : Launch) (D : va_G) (aA : Nat) (iA : ClassId) (xA : Nat → Int32)  (z : Int32) (hf : fX5_rowOf xA = some z) : ∀ sz : Nat, Met l yX5_rowOf wsX5_rowOf ({ frames := 0, cells := 0, slots := 0, locals := 0 } : Room) (kPre D [(iA, .int)] [oI aA iA 13 xA] sz [.ref aA]) (kQi D [(iA, .int)] [oI aA iA 13 xA] sz [oI aA iA 13 xA] z) 0 0 (va_A [oI aA iA 13 xA] sz) := by
  refine kMet_i (own := RX5) z (fun u => u) (fun u => [oI aA iA 13 xA]) rfl (by decide) rfl ⟨rfl, rfl⟩ (Nat.le_of_ble_eq_true rfl) ?_
  intro X hXl hXD hC hQ
  subst hXl
  subst hXD
  change kG X 0 [(0, .ref aA)] [] [oI aA iA 13 xA]
  have t4 : ∀  (n : Nat) (j1 : Int32) (j2 : Int32), lp (fun _ _ => none) (fX5_rowOf_b4_S xA ) n j1 j2 = some z → kG X 4 [(0, .ref aA), (1, .int j1), (2, .int j2)] [] [oI aA iA 13 xA] := by
    intro  n
    induction n with
    | zero => intro j1 j2 hf; cases hf
    | succ n hk4 =>
      intro j1 j2 hf
      rw [lp_s] at hf
      revert hf hk4
      generalize lp (fun _ _ => none) (fX5_rowOf_b4_S xA ) n = k4
      intro hk4 hf
      unfold fX5_rowOf_b4_S at hf
      refine g_iload_n hC 2 dX5_rowOf_4 rfl rfl ?_
      refine g_aload_n hC 0 dX5_rowOf_5 rfl rfl ?_
      refine g_iconst (v := (5 : Int32)) hC dX5_rowOf_6 ci_5 ?_
      obtain ⟨hg, hf⟩ := gd_ga hf
      refine g_iald hC 0 0 hg rfl rfl dX5_rowOf_7 ?_
      refine g_icmp_ge (tgt := 25) hC dX5_rowOf_8 (by decide) (fun hc => ?_) (fun hc => ?_)
      · replace hf := gd_t hc hf
        refine g_iload_n hC 1 dX5_rowOf_25 rfl rfl ?_
        exact hQ (j1) _ _ (gd_s hf) dX5_rowOf_26
      · replace hf := gd_f hc hf
        refine g_iload_n hC 1 dX5_rowOf_11 rfl rfl ?_
        refine g_iconst (v := (1 : Int32)) hC dX5_rowOf_12 ci_1 ?_
        refine g_aload_n hC 0 dX5_rowOf_13 rfl rfl ?_
        refine g_iload_n hC 2 dX5_rowOf_14 rfl rfl ?_
        obtain ⟨hg, hf⟩ := gd_ga hf
        refine g_iald hC 0 0 hg rfl rfl dX5_rowOf_15 ?_
        refine g_ishl hC dX5_rowOf_16 ?_
        refine g_ior hC dX5_rowOf_17 ?_
        refine g_istore_n (lv' := [(1, .int (j1 ||| ((1 : Int32) <<< ((xA j2.toNatClampNeg) &&& 31)))), (0, .ref aA), (2, .int j2)]) hC dX5_rowOf_18 rfl (by decide) rfl ?_
        refine g_iinc (v := (j2 + (1 : Int32))) (lv' := [(2, .int (j2 + (1 : Int32))), (1, .int (j1 ||| ((1 : Int32) <<< ((xA j2.toNatClampNeg) &&& 31)))), (0, .ref aA)]) hC 2 dX5_rowOf_19 rfl (ii _ ci_1) (by decide) rfl ?_
        refine g_goto (tgt := 4) hC dX5_rowOf_22 (by decide) ?_
        refine g_lv (lv' := [(0, .ref aA), (1, .int (j1 ||| ((1 : Int32) <<< ((xA j2.toNatClampNeg) &&& 31)))), (2, .int (j2 + (1 : Int32)))]) [2, 1, 0] rfl ?_
        exact hk4 (j1 ||| ((1 : Int32) <<< ((xA j2.toNatClampNeg) &&& 31))) (j2 + (1 : Int32)) hf
  unfold fX5_rowOf at hf
  refine g_iconst (v := (0 : Int32)) hC dX5_rowOf_0 ci_0 ?_
  refine g_istore_n (lv' := [(1, .int (0 : Int32)), (0, .ref aA)]) hC dX5_rowOf_1 rfl (by decide) rfl ?_
  refine g_iconst (v := (0 : Int32)) hC dX5_rowOf_2 ci_0 ?_
  refine g_istore_n (lv' := [(2, .int (0 : Int32)), (1, .int (0 : Int32)), (0, .ref aA)]) hC dX5_rowOf_3 rfl (by decide) rfl ?_
  refine g_lv (lv' := [(0, .ref aA), (1, .int (0 : Int32)), (2, .int (0 : Int32))]) [2, 1, 0] rfl ?_
  exact t4  fu (0 : Int32) (0 : Int32) hf
theorem kyX5_figuresOf : yX5_figuresOf.cls ≠ "java/lang/invoke/MethodHandle" ∧ yX5_figuresOf.cls ≠ "java/lang/invoke/VarHandle" ∧ (parseMethodDescriptor yX5_figuresOf.desc).map (fun d => d.parameters.length) = some 1 := by decide +kernel
set_option maxHeartbeats 4000000 in
set_option maxRecDepth 100000 in
theorem cX5_figuresOf_m (l : Launch) (D : va_G) (aA : Nat) (iA : ClassId) (xA : Nat → Int32)  (z : Int32) (hf : fX5_figuresOf xA = some z) : ∀ sz : Nat, Met l yX5_figuresOf wsX5_figuresOf ({ frames := 0, cells := 0, slots := 0, locals := 0 } : Room) (kPre D [(iA, .int)] [oI aA iA 13 xA] sz [.ref aA]) (kQi D [(iA, .int)] [oI aA iA 13 xA] sz [oI aA iA 13 xA] z) 0 0 (va_A [oI aA iA 13 xA] sz) := by
  refine kMet_i (own := RX5) z (fun u => u) (fun u => [oI aA iA 13 xA]) rfl (by decide) rfl ⟨rfl, rfl⟩ (Nat.le_of_ble_eq_true rfl) ?_
  intro X hXl hXD hC hQ
  subst hXl
  subst hXD
  change kG X 0 [(0, .ref aA)] [] [oI aA iA 13 xA]
  have t4 : ∀  (n : Nat) (j1 : Int32) (j2 : Int32), lp (fun _ _ => none) (fX5_figuresOf_b4_S xA ) n j1 j2 = some z → kG X 4 [(0, .ref aA), (1, .int j1), (2, .int j2)] [] [oI aA iA 13 xA] := by
    intro  n
    induction n with
    | zero => intro j1 j2 hf; cases hf
    | succ n hk4 =>
      intro j1 j2 hf
      rw [lp_s] at hf
      revert hf hk4
      generalize lp (fun _ _ => none) (fX5_figuresOf_b4_S xA ) n = k4
      intro hk4 hf
      unfold fX5_figuresOf_b4_S at hf
      refine g_iload_n hC 2 dX5_figuresOf_4 rfl rfl ?_
      refine g_aload_n hC 0 dX5_figuresOf_5 rfl rfl ?_
      refine g_iconst (v := (5 : Int32)) hC dX5_figuresOf_6 ci_5 ?_
      obtain ⟨hg, hf⟩ := gd_ga hf
      refine g_iald hC 0 0 hg rfl rfl dX5_figuresOf_7 ?_
      refine g_icmp_ge (tgt := 28) hC dX5_figuresOf_8 (by decide) (fun hc => ?_) (fun hc => ?_)
      · replace hf := gd_t hc hf
        refine g_iload_n hC 1 dX5_figuresOf_28 rfl rfl ?_
        exact hQ (j1) _ _ (gd_s hf) dX5_figuresOf_29
      · replace hf := gd_f hc hf
        refine g_bipush (v := (10 : Int32)) hC dX5_figuresOf_11 cb_10 ?_
        refine g_iload_n hC 1 dX5_figuresOf_13 rfl rfl ?_
        refine g_imul hC dX5_figuresOf_14 ?_
        refine g_aload_n hC 0 dX5_figuresOf_15 rfl rfl ?_
        refine g_iload_n hC 2 dX5_figuresOf_16 rfl rfl ?_
        obtain ⟨hg, hf⟩ := gd_ga hf
        refine g_iald hC 0 0 hg rfl rfl dX5_figuresOf_17 ?_
        refine g_iadd hC dX5_figuresOf_18 ?_
        refine g_iconst (v := (1 : Int32)) hC dX5_figuresOf_19 ci_1 ?_
        refine g_iadd hC dX5_figuresOf_20 ?_
        refine g_istore_n (lv' := [(1, .int ((((10 : Int32) * j1) + (xA j2.toNatClampNeg)) + (1 : Int32))), (0, .ref aA), (2, .int j2)]) hC dX5_figuresOf_21 rfl (by decide) rfl ?_
        refine g_iinc (v := (j2 + (1 : Int32))) (lv' := [(2, .int (j2 + (1 : Int32))), (1, .int ((((10 : Int32) * j1) + (xA j2.toNatClampNeg)) + (1 : Int32))), (0, .ref aA)]) hC 2 dX5_figuresOf_22 rfl (ii _ ci_1) (by decide) rfl ?_
        refine g_goto (tgt := 4) hC dX5_figuresOf_25 (by decide) ?_
        refine g_lv (lv' := [(0, .ref aA), (1, .int ((((10 : Int32) * j1) + (xA j2.toNatClampNeg)) + (1 : Int32))), (2, .int (j2 + (1 : Int32)))]) [2, 1, 0] rfl ?_
        exact hk4 ((((10 : Int32) * j1) + (xA j2.toNatClampNeg)) + (1 : Int32)) (j2 + (1 : Int32)) hf
  unfold fX5_figuresOf at hf
  refine g_iconst (v := (0 : Int32)) hC dX5_figuresOf_0 ci_0 ?_
  refine g_istore_n (lv' := [(1, .int (0 : Int32)), (0, .ref aA)]) hC dX5_figuresOf_1 rfl (by decide) rfl ?_
  refine g_iconst (v := (0 : Int32)) hC dX5_figuresOf_2 ci_0 ?_
  refine g_istore_n (lv' := [(2, .int (0 : Int32)), (1, .int (0 : Int32)), (0, .ref aA)]) hC dX5_figuresOf_3 rfl (by decide) rfl ?_
  refine g_lv (lv' := [(0, .ref aA), (1, .int (0 : Int32)), (2, .int (0 : Int32))]) [2, 1, 0] rfl ?_
  exact t4  fu (0 : Int32) (0 : Int32) hf
theorem kyX5_about : yX5_about.cls = RX5 ∧ yX5_about.cls ≠ "java/lang/invoke/MethodHandle" ∧ yX5_about.cls ≠ "java/lang/invoke/VarHandle" ∧ (parseMethodDescriptor yX5_about.desc).map (fun d => d.parameters.length) = some 1 := by decide +kernel
set_option maxHeartbeats 4000000 in
set_option maxRecDepth 100000 in
theorem cX5_about_m (l : Launch) (D : va_G) (aM aMtext aMnerve aMkind aMreadNerve aMreadKind aMpage aMtrial aMbook aMkept aMisKept aMtoldMinute aMtoldHeard aMworth : Nat) (iMpage : ClassId) (xM_thrown : Int32) (xM_textSize : Int32) (xM_place : Int32) (xM_walkers : Int32) (xM_light : Int32) (xM_water : Int32) (xM_readWalkers : Int32) (xM_readLight : Int32) (xM_readWater : Int32) (xM_acts : Int32) (xM_told : Int32) (xM_seed : Int64) (xM_orderBest : Int32) (xM_orderMany : Int32) (xM_turned : Int32) (xMpage : Nat → Int32) (j1 : Int32) (z : Int32 × Int32) (hf : fX5_about j1 xM_thrown xM_textSize xM_walkers xM_light xM_water xM_acts xM_told xMpage = some z) : ∀ sz : Nat, Met l yX5_about wsX5_about ({ frames := 1, cells := 0, slots := 0, locals := 22 } : Room) (kPre D [(iMpage, .int)] [oO aM 4 [.int xM_thrown, .ref aMtext, .int xM_textSize, .int xM_place, .int xM_walkers, .int xM_light, .int xM_water, .ref aMnerve, .ref aMkind, .int xM_readWalkers, .int xM_readLight, .int xM_readWater, .ref aMreadNerve, .ref aMreadKind, .ref aMpage, .ref aMtrial, .ref aMbook, .int xM_acts, .ref aMkept, .ref aMisKept, .int xM_told, .ref aMtoldMinute, .ref aMtoldHeard, .long xM_seed, .int xM_orderBest, .int xM_orderMany, .ref aMworth, .int xM_turned], oI aMpage iMpage 13 xMpage] sz [.ref aM, .int j1]) (kQi D [(iMpage, .int)] [oO aM 4 [.int xM_thrown, .ref aMtext, .int xM_textSize, .int xM_place, .int xM_walkers, .int xM_light, .int xM_water, .ref aMnerve, .ref aMkind, .int xM_readWalkers, .int xM_readLight, .int xM_readWater, .ref aMreadNerve, .ref aMreadKind, .ref aMpage, .ref aMtrial, .ref aMbook, .int xM_acts, .ref aMkept, .ref aMisKept, .int xM_told, .ref aMtoldMinute, .ref aMtoldHeard, .long xM_seed, .int xM_orderBest, .int xM_orderMany, .ref aMworth, .int xM_turned], oI aMpage iMpage 13 xMpage] sz [oO aM 4 [.int z.2, .ref aMtext, .int xM_textSize, .int xM_place, .int xM_walkers, .int xM_light, .int xM_water, .ref aMnerve, .ref aMkind, .int xM_readWalkers, .int xM_readLight, .int xM_readWater, .ref aMreadNerve, .ref aMreadKind, .ref aMpage, .ref aMtrial, .ref aMbook, .int xM_acts, .ref aMkept, .ref aMisKept, .int xM_told, .ref aMtoldMinute, .ref aMtoldHeard, .long xM_seed, .int xM_orderBest, .int xM_orderMany, .ref aMworth, .int xM_turned], oI aMpage iMpage 13 xMpage] z.1) 0 0 (va_A [oO aM 4 [.int xM_thrown, .ref aMtext, .int xM_textSize, .int xM_place, .int xM_walkers, .int xM_light, .int xM_water, .ref aMnerve, .ref aMkind, .int xM_readWalkers, .int xM_readLight, .int xM_readWater, .ref aMreadNerve, .ref aMreadKind, .ref aMpage, .ref aMtrial, .ref aMbook, .int xM_acts, .ref aMkept, .ref aMisKept, .int xM_told, .ref aMtoldMinute, .ref aMtoldHeard, .long xM_seed, .int xM_orderBest, .int xM_orderMany, .ref aMworth, .int xM_turned], oI aMpage iMpage 13 xMpage] sz) := by
  refine kMet_i (own := RX5) z (fun u => u.1) (fun u => [oO aM 4 [.int u.2, .ref aMtext, .int xM_textSize, .int xM_place, .int xM_walkers, .int xM_light, .int xM_water, .ref aMnerve, .ref aMkind, .int xM_readWalkers, .int xM_readLight, .int xM_readWater, .ref aMreadNerve, .ref aMreadKind, .ref aMpage, .ref aMtrial, .ref aMbook, .int xM_acts, .ref aMkept, .ref aMisKept, .int xM_told, .ref aMtoldMinute, .ref aMtoldHeard, .long xM_seed, .int xM_orderBest, .int xM_orderMany, .ref aMworth, .int xM_turned], oI aMpage iMpage 13 xMpage]) rfl (by decide) rfl ⟨rfl, rfl⟩ (Nat.le_of_ble_eq_true rfl) ?_
  intro X hXl hXD hC hQ
  subst hXl
  subst hXD
  change kG X 0 [(0, .ref aM), (1, .int j1)] [] [oO aM 4 [.int xM_thrown, .ref aMtext, .int xM_textSize, .int xM_place, .int xM_walkers, .int xM_light, .int xM_water, .ref aMnerve, .ref aMkind, .int xM_readWalkers, .int xM_readLight, .int xM_readWater, .ref aMreadNerve, .ref aMreadKind, .ref aMpage, .ref aMtrial, .ref aMbook, .int xM_acts, .ref aMkept, .ref aMisKept, .int xM_told, .ref aMtoldMinute, .ref aMtoldHeard, .long xM_seed, .int xM_orderBest, .int xM_orderMany, .ref aMworth, .int xM_turned], oI aMpage iMpage 13 xMpage]
  have hinX5 : ∀ w ∈ wsX50, w ∈ wsX5_about := fun _ h => List.mem_cons_of_mem _ (List.mem_append_right _ h)
  unfold fX5_about at hf
  refine g_aload_n hC 0 dX5_about_0 rfl rfl ?_
  refine g_iconst (v := (0 : Int32)) hC dX5_about_1 ci_0 ?_
  refine g_put (C := RX5) (T := TX5) (N := 28) (ty := .int) (ws' := [oO aM 4 [.int (0 : Int32), .ref aMtext, .int xM_textSize, .int xM_place, .int xM_walkers, .int xM_light, .int xM_water, .ref aMnerve, .ref aMkind, .int xM_readWalkers, .int xM_readLight, .int xM_readWater, .ref aMreadNerve, .ref aMreadKind, .ref aMpage, .ref aMtrial, .ref aMbook, .int xM_acts, .ref aMkept, .ref aMisKept, .int xM_told, .ref aMtoldMinute, .ref aMtoldHeard, .long xM_seed, .int xM_orderBest, .int xM_orderMany, .ref aMworth, .int xM_turned], oI aMpage iMpage 13 xMpage]) hC tyX5_ok nmX5 hinX5 0 0 rfl rfl (by decide) (List.mem_of_getElem? (i := 1) rfl) rfl rfl rfl rfl (Nat.le_of_ble_eq_true rfl) dX5_about_2 rfl ?_
  refine g_iload_n hC 1 dX5_about_5 rfl rfl ?_
  by_cases c0 : j1 = (0 : Int32)
  · replace hf := gd_t c0 hf
    refine g_tableIn (tgt := 64) hC c0 dX5_about_6 (by decide) (by decide) rfl (by decide) ?_
    refine g_aload_n hC 0 dX5_about_64 rfl rfl ?_
    refine g_get (C := RX5) (T := TX5) (N := 28) (v := .int xM_walkers) hC hinX5 0 4 rfl rfl (by decide) (List.mem_of_getElem? (i := 2) rfl) rfl dX5_about_65 ?_
    exact hQ (xM_walkers, (0 : Int32)) _ _ (gd_s hf) dX5_about_68
  replace hf := gd_f c0 hf
  by_cases c1 : j1 = (1 : Int32)
  · replace hf := gd_t c1 hf
    refine g_tableIn (tgt := 69) hC c1 dX5_about_6 (by decide) (by decide) rfl (by decide) ?_
    refine g_aload_n hC 0 dX5_about_69 rfl rfl ?_
    refine g_get (C := RX5) (T := TX5) (N := 28) (v := .int xM_light) hC hinX5 0 5 rfl rfl (by decide) (List.mem_of_getElem? (i := 3) rfl) rfl dX5_about_70 ?_
    exact hQ (xM_light, (0 : Int32)) _ _ (gd_s hf) dX5_about_73
  replace hf := gd_f c1 hf
  by_cases c2 : j1 = (2 : Int32)
  · replace hf := gd_t c2 hf
    refine g_tableIn (tgt := 74) hC c2 dX5_about_6 (by decide) (by decide) rfl (by decide) ?_
    refine g_aload_n hC 0 dX5_about_74 rfl rfl ?_
    refine g_get (C := RX5) (T := TX5) (N := 28) (v := .int xM_water) hC hinX5 0 6 rfl rfl (by decide) (List.mem_of_getElem? (i := 4) rfl) rfl dX5_about_75 ?_
    exact hQ (xM_water, (0 : Int32)) _ _ (gd_s hf) dX5_about_78
  replace hf := gd_f c2 hf
  by_cases c3 : j1 = (3 : Int32)
  · replace hf := gd_t c3 hf
    refine g_tableIn (tgt := 79) hC c3 dX5_about_6 (by decide) (by decide) rfl (by decide) ?_
    refine g_aload_n hC 0 dX5_about_79 rfl rfl ?_
    refine g_get (C := RX5) (T := TX5) (N := 28) (v := .ref aMpage) hC hinX5 0 14 rfl rfl (by decide) (List.mem_of_getElem? (i := 5) rfl) rfl dX5_about_80 ?_
    refine g_bipush (v := (11 : Int32)) hC dX5_about_83 cb_11 ?_
    obtain ⟨hg, hf⟩ := gd_ga hf
    refine g_iald hC 1 0 hg rfl rfl dX5_about_85 ?_
    exact hQ ((xMpage (11 : Int32).toNatClampNeg), (0 : Int32)) _ _ (gd_s hf) dX5_about_86
  replace hf := gd_f c3 hf
  by_cases c4 : j1 = (4 : Int32)
  · replace hf := gd_t c4 hf
    refine g_tableIn (tgt := 87) hC c4 dX5_about_6 (by decide) (by decide) rfl (by decide) ?_
    refine g_aload_n hC 0 dX5_about_87 rfl rfl ?_
    refine g_get (C := RX5) (T := TX5) (N := 28) (v := .ref aMpage) hC hinX5 0 14 rfl rfl (by decide) (List.mem_of_getElem? (i := 5) rfl) rfl dX5_about_88 ?_
    obtain ⟨z91, hz91, hf⟩ := gd_b hf
    refine g_callSi (wr := [oO aM 4 [.int (0 : Int32), .ref aMtext, .int xM_textSize, .int xM_place, .int xM_walkers, .int xM_light, .int xM_water, .ref aMnerve, .ref aMkind, .int xM_readWalkers, .int xM_readLight, .int xM_readWater, .ref aMreadNerve, .ref aMreadKind, .ref aMpage, .ref aMtrial, .ref aMbook, .int xM_acts, .ref aMkept, .ref aMisKept, .int xM_told, .ref aMtoldMinute, .ref aMtoldHeard, .long xM_seed, .int xM_orderBest, .int xM_orderMany, .ref aMworth, .int xM_turned]]) (wn := [oO aM 4 [.int (0 : Int32), .ref aMtext, .int xM_textSize, .int xM_place, .int xM_walkers, .int xM_light, .int xM_water, .ref aMnerve, .ref aMkind, .int xM_readWalkers, .int xM_readLight, .int xM_readWater, .ref aMreadNerve, .ref aMreadKind, .ref aMpage, .ref aMtrial, .ref aMbook, .int xM_acts, .ref aMkept, .ref aMisKept, .int xM_told, .ref aMtoldMinute, .ref aMtoldHeard, .long xM_seed, .int xM_orderBest, .int xM_orderMany, .ref aMworth, .int xM_turned], oI aMpage iMpage 13 xMpage]) hC [.ref aMpage] (cX5_rowOf_m (kl X) (kD X) aMpage iMpage xMpage z91 hz91) gX5_about_X5_rowOf rfl kyX5_rowOf rfl [1] [0] [0] [0, 1] rfl rfl rfl rfl (by decide) rfl rfl rfl ⟨rfl, rfl⟩ ⟨Nat.le_of_ble_eq_true rfl, Nat.le_of_ble_eq_true rfl⟩ (Nat.le_of_ble_eq_true rfl) rfl dX5_about_91 ?_
    exact hQ (z91, (0 : Int32)) _ _ (gd_s hf) dX5_about_94
  replace hf := gd_f c4 hf
  by_cases c5 : j1 = (5 : Int32)
  · replace hf := gd_t c5 hf
    refine g_tableIn (tgt := 95) hC c5 dX5_about_6 (by decide) (by decide) rfl (by decide) ?_
    refine g_aload_n hC 0 dX5_about_95 rfl rfl ?_
    refine g_get (C := RX5) (T := TX5) (N := 28) (v := .ref aMpage) hC hinX5 0 14 rfl rfl (by decide) (List.mem_of_getElem? (i := 5) rfl) rfl dX5_about_96 ?_
    refine g_bipush (v := (12 : Int32)) hC dX5_about_99 cb_12 ?_
    obtain ⟨hg, hf⟩ := gd_ga hf
    refine g_iald hC 1 0 hg rfl rfl dX5_about_101 ?_
    exact hQ ((xMpage (12 : Int32).toNatClampNeg), (0 : Int32)) _ _ (gd_s hf) dX5_about_102
  replace hf := gd_f c5 hf
  by_cases c6 : j1 = (6 : Int32)
  · replace hf := gd_t c6 hf
    refine g_tableIn (tgt := 103) hC c6 dX5_about_6 (by decide) (by decide) rfl (by decide) ?_
    refine g_aload_n hC 0 dX5_about_103 rfl rfl ?_
    refine g_get (C := RX5) (T := TX5) (N := 28) (v := .ref aMpage) hC hinX5 0 14 rfl rfl (by decide) (List.mem_of_getElem? (i := 5) rfl) rfl dX5_about_104 ?_
    obtain ⟨z107, hz107, hf⟩ := gd_b hf
    refine g_callSi (wr := [oO aM 4 [.int (0 : Int32), .ref aMtext, .int xM_textSize, .int xM_place, .int xM_walkers, .int xM_light, .int xM_water, .ref aMnerve, .ref aMkind, .int xM_readWalkers, .int xM_readLight, .int xM_readWater, .ref aMreadNerve, .ref aMreadKind, .ref aMpage, .ref aMtrial, .ref aMbook, .int xM_acts, .ref aMkept, .ref aMisKept, .int xM_told, .ref aMtoldMinute, .ref aMtoldHeard, .long xM_seed, .int xM_orderBest, .int xM_orderMany, .ref aMworth, .int xM_turned]]) (wn := [oO aM 4 [.int (0 : Int32), .ref aMtext, .int xM_textSize, .int xM_place, .int xM_walkers, .int xM_light, .int xM_water, .ref aMnerve, .ref aMkind, .int xM_readWalkers, .int xM_readLight, .int xM_readWater, .ref aMreadNerve, .ref aMreadKind, .ref aMpage, .ref aMtrial, .ref aMbook, .int xM_acts, .ref aMkept, .ref aMisKept, .int xM_told, .ref aMtoldMinute, .ref aMtoldHeard, .long xM_seed, .int xM_orderBest, .int xM_orderMany, .ref aMworth, .int xM_turned], oI aMpage iMpage 13 xMpage]) hC [.ref aMpage] (cX5_figuresOf_m (kl X) (kD X) aMpage iMpage xMpage z107 hz107) gX5_about_X5_figuresOf rfl kyX5_figuresOf rfl [1] [0] [0] [0, 1] rfl rfl rfl rfl (by decide) rfl rfl rfl ⟨rfl, rfl⟩ ⟨Nat.le_of_ble_eq_true rfl, Nat.le_of_ble_eq_true rfl⟩ (Nat.le_of_ble_eq_true rfl) rfl dX5_about_107 ?_
    exact hQ (z107, (0 : Int32)) _ _ (gd_s hf) dX5_about_110
  replace hf := gd_f c6 hf
  by_cases c7 : j1 = (7 : Int32)
  · replace hf := gd_t c7 hf
    refine g_tableIn (tgt := 111) hC c7 dX5_about_6 (by decide) (by decide) rfl (by decide) ?_
    refine g_aload_n hC 0 dX5_about_111 rfl rfl ?_
    refine g_get (C := RX5) (T := TX5) (N := 28) (v := .int xM_acts) hC hinX5 0 17 rfl rfl (by decide) (List.mem_of_getElem? (i := 6) rfl) rfl dX5_about_112 ?_
    exact hQ (xM_acts, (0 : Int32)) _ _ (gd_s hf) dX5_about_115
  replace hf := gd_f c7 hf
  by_cases c8 : j1 = (8 : Int32)
  · replace hf := gd_t c8 hf
    refine g_tableIn (tgt := 116) hC c8 dX5_about_6 (by decide) (by decide) rfl (by decide) ?_
    refine g_aload_n hC 0 dX5_about_116 rfl rfl ?_
    refine g_get (C := RX5) (T := TX5) (N := 28) (v := .int xM_told) hC hinX5 0 20 rfl rfl (by decide) (List.mem_of_getElem? (i := 7) rfl) rfl dX5_about_117 ?_
    exact hQ (xM_told, (0 : Int32)) _ _ (gd_s hf) dX5_about_120
  replace hf := gd_f c8 hf
  by_cases c9 : j1 = (9 : Int32)
  · replace hf := gd_t c9 hf
    refine g_tableIn (tgt := 121) hC c9 dX5_about_6 (by decide) (by decide) rfl (by decide) ?_
    refine g_aload_n hC 0 dX5_about_121 rfl rfl ?_
    refine g_get (C := RX5) (T := TX5) (N := 28) (v := .int xM_textSize) hC hinX5 0 2 rfl rfl (by decide) (List.mem_of_getElem? (i := 8) rfl) rfl dX5_about_122 ?_
    exact hQ (xM_textSize, (0 : Int32)) _ _ (gd_s hf) dX5_about_125
  replace hf := gd_f c9 hf
  by_cases c10 : j1 = (10 : Int32)
  · replace hf := gd_t c10 hf
    refine g_tableIn (tgt := 126) hC c10 dX5_about_6 (by decide) (by decide) rfl (by decide) ?_
    refine g_aload_n hC 0 dX5_about_126 rfl rfl ?_
    refine g_get (C := RX5) (T := TX5) (N := 28) (v := .ref aMpage) hC hinX5 0 14 rfl rfl (by decide) (List.mem_of_getElem? (i := 5) rfl) rfl dX5_about_127 ?_
    refine g_bipush (v := (11 : Int32)) hC dX5_about_130 cb_11 ?_
    obtain ⟨hg, hf⟩ := gd_ga hf
    refine g_iald hC 1 0 hg rfl rfl dX5_about_132 ?_
    refine g_aload_n hC 0 dX5_about_133 rfl rfl ?_
    refine g_get (C := RX5) (T := TX5) (N := 28) (v := .int xM_light) hC hinX5 0 5 rfl rfl (by decide) (List.mem_of_getElem? (i := 3) rfl) rfl dX5_about_134 ?_
    refine g_icmp_ne (tgt := 144) hC dX5_about_137 (by decide) (fun hc => ?_) (fun hc => ?_)
    · replace hf := gd_f hc hf
      refine g_iconst (v := (0 : Int32)) hC dX5_about_144 ci_0 ?_
      exact hQ ((0 : Int32), (0 : Int32)) _ _ (gd_s hf) dX5_about_145
    · replace hf := gd_t hc hf
      refine g_iconst (v := (1 : Int32)) hC dX5_about_140 ci_1 ?_
      refine g_goto (tgt := 145) hC dX5_about_141 (by decide) ?_
      exact hQ ((1 : Int32), (0 : Int32)) _ _ (gd_s hf) dX5_about_145
  replace hf := gd_f c10 hf
  refine g_tableOut (tgt := 146) hC dX5_about_6 (by have e0 := lv_neT c0 (a := 0) (by decide); have e1 := lv_neT c1 (a := 1) (by decide); have e2 := lv_neT c2 (a := 2) (by decide); have e3 := lv_neT c3 (a := 3) (by decide); have e4 := lv_neT c4 (a := 4) (by decide); have e5 := lv_neT c5 (a := 5) (by decide); have e6 := lv_neT c6 (a := 6) (by decide); have e7 := lv_neT c7 (a := 7) (by decide); have e8 := lv_neT c8 (a := 8) (by decide); have e9 := lv_neT c9 (a := 9) (by decide); have e10 := lv_neT c10 (a := 10) (by decide); omega) (by decide) ?_
  refine g_bipush (v := (-2 : Int32)) hC dX5_about_146 cb_m2 ?_
  exact hQ ((-2 : Int32), (0 : Int32)) _ _ (gd_s hf) dX5_about_148
theorem kyX5_noOne : yX5_noOne.cls = RX5 ∧ yX5_noOne.cls ≠ "java/lang/invoke/MethodHandle" ∧ yX5_noOne.cls ≠ "java/lang/invoke/VarHandle" ∧ (parseMethodDescriptor yX5_noOne.desc).map (fun d => d.parameters.length) = some 1 := by decide +kernel
set_option maxHeartbeats 4000000 in
set_option maxRecDepth 100000 in
theorem cX5_noOne_m (l : Launch) (D : va_G) (aM aMtext aMnerve aMkind aMreadNerve aMreadKind aMpage aMtrial aMbook aMkept aMisKept aMtoldMinute aMtoldHeard aMworth : Nat) (xM_thrown : Int32) (xM_textSize : Int32) (xM_place : Int32) (xM_walkers : Int32) (xM_light : Int32) (xM_water : Int32) (xM_readWalkers : Int32) (xM_readLight : Int32) (xM_readWater : Int32) (xM_acts : Int32) (xM_told : Int32) (xM_seed : Int64) (xM_orderBest : Int32) (xM_orderMany : Int32) (xM_turned : Int32) (j1 : Int32) (z : Int32) (hf : fX5_noOne j1 xM_walkers = some z) : ∀ sz : Nat, Met l yX5_noOne wsX5_noOne ({ frames := 1, cells := 0, slots := 0, locals := 25 } : Room) (kPre D [] [oO aM 4 [.int xM_thrown, .ref aMtext, .int xM_textSize, .int xM_place, .int xM_walkers, .int xM_light, .int xM_water, .ref aMnerve, .ref aMkind, .int xM_readWalkers, .int xM_readLight, .int xM_readWater, .ref aMreadNerve, .ref aMreadKind, .ref aMpage, .ref aMtrial, .ref aMbook, .int xM_acts, .ref aMkept, .ref aMisKept, .int xM_told, .ref aMtoldMinute, .ref aMtoldHeard, .long xM_seed, .int xM_orderBest, .int xM_orderMany, .ref aMworth, .int xM_turned]] sz [.ref aM, .int j1]) (kQi D [] [oO aM 4 [.int xM_thrown, .ref aMtext, .int xM_textSize, .int xM_place, .int xM_walkers, .int xM_light, .int xM_water, .ref aMnerve, .ref aMkind, .int xM_readWalkers, .int xM_readLight, .int xM_readWater, .ref aMreadNerve, .ref aMreadKind, .ref aMpage, .ref aMtrial, .ref aMbook, .int xM_acts, .ref aMkept, .ref aMisKept, .int xM_told, .ref aMtoldMinute, .ref aMtoldHeard, .long xM_seed, .int xM_orderBest, .int xM_orderMany, .ref aMworth, .int xM_turned]] sz [oO aM 4 [.int xM_thrown, .ref aMtext, .int xM_textSize, .int xM_place, .int xM_walkers, .int xM_light, .int xM_water, .ref aMnerve, .ref aMkind, .int xM_readWalkers, .int xM_readLight, .int xM_readWater, .ref aMreadNerve, .ref aMreadKind, .ref aMpage, .ref aMtrial, .ref aMbook, .int xM_acts, .ref aMkept, .ref aMisKept, .int xM_told, .ref aMtoldMinute, .ref aMtoldHeard, .long xM_seed, .int xM_orderBest, .int xM_orderMany, .ref aMworth, .int xM_turned]] z) 0 0 (va_A [oO aM 4 [.int xM_thrown, .ref aMtext, .int xM_textSize, .int xM_place, .int xM_walkers, .int xM_light, .int xM_water, .ref aMnerve, .ref aMkind, .int xM_readWalkers, .int xM_readLight, .int xM_readWater, .ref aMreadNerve, .ref aMreadKind, .ref aMpage, .ref aMtrial, .ref aMbook, .int xM_acts, .ref aMkept, .ref aMisKept, .int xM_told, .ref aMtoldMinute, .ref aMtoldHeard, .long xM_seed, .int xM_orderBest, .int xM_orderMany, .ref aMworth, .int xM_turned]] sz) := by
  refine kMet_z (own := RX5) z (fun u => u) (fun u => [oO aM 4 [.int xM_thrown, .ref aMtext, .int xM_textSize, .int xM_place, .int xM_walkers, .int xM_light, .int xM_water, .ref aMnerve, .ref aMkind, .int xM_readWalkers, .int xM_readLight, .int xM_readWater, .ref aMreadNerve, .ref aMreadKind, .ref aMpage, .ref aMtrial, .ref aMbook, .int xM_acts, .ref aMkept, .ref aMisKept, .int xM_told, .ref aMtoldMinute, .ref aMtoldHeard, .long xM_seed, .int xM_orderBest, .int xM_orderMany, .ref aMworth, .int xM_turned]]) rfl (by decide) rfl ⟨rfl, rfl⟩ (Nat.le_of_ble_eq_true rfl) ?_
  intro X hXl hXD hC hQ
  subst hXl
  subst hXD
  change kG X 0 [(0, .ref aM), (1, .int j1)] [] [oO aM 4 [.int xM_thrown, .ref aMtext, .int xM_textSize, .int xM_place, .int xM_walkers, .int xM_light, .int xM_water, .ref aMnerve, .ref aMkind, .int xM_readWalkers, .int xM_readLight, .int xM_readWater, .ref aMreadNerve, .ref aMreadKind, .ref aMpage, .ref aMtrial, .ref aMbook, .int xM_acts, .ref aMkept, .ref aMisKept, .int xM_told, .ref aMtoldMinute, .ref aMtoldHeard, .long xM_seed, .int xM_orderBest, .int xM_orderMany, .ref aMworth, .int xM_turned]]
  have hinX5 : ∀ w ∈ wsX50, w ∈ wsX5_noOne := fun _ h => List.mem_cons_of_mem _ (List.mem_append_right _ h)
  unfold fX5_noOne at hf
  refine g_iload_n hC 1 dX5_noOne_0 rfl rfl ?_
  refine g_i2l hC dX5_noOne_1 ?_
  refine g_lconst (v := (0 : Int64)) hC dX5_noOne_2 rfl ?_
  refine g_aload_n hC 0 dX5_noOne_3 rfl rfl ?_
  refine g_get (C := RX5) (T := TX5) (N := 28) (v := .int xM_walkers) hC hinX5 0 4 rfl rfl (by decide) (List.mem_of_getElem? (i := 1) rfl) rfl dX5_noOne_4 ?_
  refine g_iconst (v := (1 : Int32)) hC dX5_noOne_7 ci_1 ?_
  refine g_isub hC dX5_noOne_8 ?_
  refine g_i2l hC dX5_noOne_9 ?_
  obtain ⟨z10, hz10, hf⟩ := gd_b hf
  refine g_callSi (wr := [oO aM 4 [.int xM_thrown, .ref aMtext, .int xM_textSize, .int xM_place, .int xM_walkers, .int xM_light, .int xM_water, .ref aMnerve, .ref aMkind, .int xM_readWalkers, .int xM_readLight, .int xM_readWater, .ref aMreadNerve, .ref aMreadKind, .ref aMpage, .ref aMtrial, .ref aMbook, .int xM_acts, .ref aMkept, .ref aMisKept, .int xM_told, .ref aMtoldMinute, .ref aMtoldHeard, .long xM_seed, .int xM_orderBest, .int xM_orderMany, .ref aMworth, .int xM_turned]]) (wn := [oO aM 4 [.int xM_thrown, .ref aMtext, .int xM_textSize, .int xM_place, .int xM_walkers, .int xM_light, .int xM_water, .ref aMnerve, .ref aMkind, .int xM_readWalkers, .int xM_readLight, .int xM_readWater, .ref aMreadNerve, .ref aMreadKind, .ref aMpage, .ref aMtrial, .ref aMbook, .int xM_acts, .ref aMkept, .ref aMisKept, .int xM_told, .ref aMtoldMinute, .ref aMtoldHeard, .long xM_seed, .int xM_orderBest, .int xM_orderMany, .ref aMworth, .int xM_turned]]) hC [.long j1.toInt64, .long (0 : Int64), .long (xM_walkers - (1 : Int32)).toInt64] (cX5_in_m (kl X) (kD X) j1.toInt64 (0 : Int64) ((xM_walkers - (1 : Int32)).toInt64) z10 hz10) gX5_noOne_X5_in rfl kyX5_in rfl [] [0] [] [0] rfl rfl rfl rfl (by decide) rfl rfl rfl ⟨rfl, rfl⟩ ⟨Nat.le_of_ble_eq_true rfl, Nat.le_of_ble_eq_true rfl⟩ (Nat.le_of_ble_eq_true rfl) rfl dX5_noOne_10 ?_
  refine g_if_ne (tgt := 20) hC dX5_noOne_13 (by decide) (fun hc => ?_) (fun hc => ?_)
  · replace hf := gd_f hc hf
    refine g_iconst (v := (0 : Int32)) hC dX5_noOne_20 ci_0 ?_
    exact hQ ((0 : Int32)) _ _ (gd_s hf) (nz_of (Or.inl rfl)) dX5_noOne_21
  · replace hf := gd_t hc hf
    refine g_iconst (v := (1 : Int32)) hC dX5_noOne_16 ci_1 ?_
    refine g_goto (tgt := 21) hC dX5_noOne_17 (by decide) ?_
    exact hQ ((1 : Int32)) _ _ (gd_s hf) (nz_of (Or.inr rfl)) dX5_noOne_21
theorem kyX5_placeOf : yX5_placeOf.cls ≠ "java/lang/invoke/MethodHandle" ∧ yX5_placeOf.cls ≠ "java/lang/invoke/VarHandle" ∧ (parseMethodDescriptor yX5_placeOf.desc).map (fun d => d.parameters.length) = some 2 := by decide +kernel
set_option maxHeartbeats 4000000 in
set_option maxRecDepth 100000 in
theorem cX5_placeOf_m (l : Launch) (D : va_G) (aA : Nat) (iA : ClassId) (xA : Nat → Int32) (j1 : Int32) (z : Int32) (hf : fX5_placeOf j1 xA = some z) : ∀ sz : Nat, Met l yX5_placeOf wsX5_placeOf ({ frames := 0, cells := 0, slots := 0, locals := 0 } : Room) (kPre D [(iA, .int)] [oI aA iA 13 xA] sz [.ref aA, .int j1]) (kQi D [(iA, .int)] [oI aA iA 13 xA] sz [oI aA iA 13 xA] z) 0 0 (va_A [oI aA iA 13 xA] sz) := by
  refine kMet_i (own := RX5) z (fun u => u) (fun u => [oI aA iA 13 xA]) rfl (by decide) rfl ⟨rfl, rfl⟩ (Nat.le_of_ble_eq_true rfl) ?_
  intro X hXl hXD hC hQ
  subst hXl
  subst hXD
  change kG X 0 [(0, .ref aA), (1, .int j1)] [] [oI aA iA 13 xA]
  have t24 : ∀ (k5 : Int32 → Int32 → Int32 → Option (Int32)) (hk5 : ∀ (j1 : Int32) (j2 : Int32) (j3 : Int32), k5 j1 j2 j3 = some z → kG X 5 [(0, .ref aA), (1, .int j1), (2, .int j2), (3, .int j3)] [] [oI aA iA 13 xA]) (j1 : Int32) (j3 : Int32) (y0 : Int32), fX5_placeOf_b24 xA k5 j1 j3 y0 = some z → kG X 24 [(0, .ref aA), (1, .int j1), (3, .int j3)] [.int y0] [oI aA iA 13 xA] := by
    intro k5 hk5 j1 j3 y0 hf
    unfold fX5_placeOf_b24 at hf
    refine g_istore_n (lv' := [(2, .int y0), (0, .ref aA), (1, .int j1), (3, .int j3)]) hC dX5_placeOf_24 rfl (by decide) rfl ?_
    refine g_iinc (v := (j3 + (1 : Int32))) (lv' := [(3, .int (j3 + (1 : Int32))), (2, .int y0), (0, .ref aA), (1, .int j1)]) hC 3 dX5_placeOf_25 rfl (ii _ ci_1) (by decide) rfl ?_
    refine g_goto (tgt := 5) hC dX5_placeOf_28 (by decide) ?_
    refine g_lv (lv' := [(0, .ref aA), (1, .int j1), (2, .int y0), (3, .int (j3 + (1 : Int32)))]) [2, 3, 1, 0] rfl ?_
    exact hk5 j1 y0 (j3 + (1 : Int32)) hf
  have t5 : ∀  (n : Nat) (j1 : Int32) (j2 : Int32) (j3 : Int32), lp (fun _ _ _ => none) (fX5_placeOf_b5_S xA ) n j1 j2 j3 = some z → kG X 5 [(0, .ref aA), (1, .int j1), (2, .int j2), (3, .int j3)] [] [oI aA iA 13 xA] := by
    intro  n
    induction n with
    | zero => intro j1 j2 j3 hf; cases hf
    | succ n hk5 =>
      intro j1 j2 j3 hf
      rw [lp_s] at hf
      revert hf hk5
      generalize lp (fun _ _ _ => none) (fX5_placeOf_b5_S xA ) n = k5
      intro hk5 hf
      unfold fX5_placeOf_b5_S at hf
      refine g_iload_n hC 3 dX5_placeOf_5 rfl rfl ?_
      refine g_aload_n hC 0 dX5_placeOf_6 rfl rfl ?_
      refine g_iconst (v := (5 : Int32)) hC dX5_placeOf_7 ci_5 ?_
      obtain ⟨hg, hf⟩ := gd_ga hf
      refine g_iald hC 0 0 hg rfl rfl dX5_placeOf_8 ?_
      refine g_icmp_ge (tgt := 31) hC dX5_placeOf_9 (by decide) (fun hc => ?_) (fun hc => ?_)
      · replace hf := gd_t hc hf
        refine g_iload_n hC 2 dX5_placeOf_31 rfl rfl ?_
        exact hQ (j2) _ _ (gd_s hf) dX5_placeOf_32
      · replace hf := gd_f hc hf
        refine g_aload_n hC 0 dX5_placeOf_12 rfl rfl ?_
        refine g_iload_n hC 3 dX5_placeOf_13 rfl rfl ?_
        obtain ⟨hg, hf⟩ := gd_ga hf
        refine g_iald hC 0 0 hg rfl rfl dX5_placeOf_14 ?_
        refine g_iload_n hC 1 dX5_placeOf_15 rfl rfl ?_
        refine g_icmp_ne (tgt := 23) hC dX5_placeOf_16 (by decide) (fun hc => ?_) (fun hc => ?_)
        · replace hf := gd_f hc hf
          refine g_iload_n hC 2 dX5_placeOf_23 rfl rfl ?_
          refine g_lv (lv' := [(0, .ref aA), (1, .int j1), (3, .int j3)]) [0, 1, 3] rfl ?_
          exact t24 k5 hk5 j1 j3 j2 hf
        · replace hf := gd_t hc hf
          refine g_iload_n hC 3 dX5_placeOf_19 rfl rfl ?_
          refine g_goto (tgt := 24) hC dX5_placeOf_20 (by decide) ?_
          refine g_lv (lv' := [(0, .ref aA), (1, .int j1), (3, .int j3)]) [0, 1, 3] rfl ?_
          exact t24 k5 hk5 j1 j3 j3 hf
  unfold fX5_placeOf at hf
  refine g_bipush (v := (-9 : Int32)) hC dX5_placeOf_0 cb_m9 ?_
  refine g_istore_n (lv' := [(2, .int (-9 : Int32)), (0, .ref aA), (1, .int j1)]) hC dX5_placeOf_2 rfl (by decide) rfl ?_
  refine g_iconst (v := (0 : Int32)) hC dX5_placeOf_3 ci_0 ?_
  refine g_istore_n (lv' := [(3, .int (0 : Int32)), (2, .int (-9 : Int32)), (0, .ref aA), (1, .int j1)]) hC dX5_placeOf_4 rfl (by decide) rfl ?_
  refine g_lv (lv' := [(0, .ref aA), (1, .int j1), (2, .int (-9 : Int32)), (3, .int (0 : Int32))]) [2, 3, 1, 0] rfl ?_
  exact t5  fu j1 (-9 : Int32) (0 : Int32) hf
theorem kyX5_walker : yX5_walker.cls = RX5 ∧ yX5_walker.cls ≠ "java/lang/invoke/MethodHandle" ∧ yX5_walker.cls ≠ "java/lang/invoke/VarHandle" ∧ (parseMethodDescriptor yX5_walker.desc).map (fun d => d.parameters.length) = some 2 := by decide +kernel
set_option maxHeartbeats 4000000 in
set_option maxRecDepth 100000 in
theorem cX5_walker_m (l : Launch) (D : va_G) (aM aMtext aMnerve aMkind aMreadNerve aMreadKind aMpage aMtrial aMbook aMkept aMisKept aMtoldMinute aMtoldHeard aMworth : Nat) (iMnerve iMkind iMpage : ClassId) (xM_thrown : Int32) (xM_textSize : Int32) (xM_place : Int32) (xM_walkers : Int32) (xM_light : Int32) (xM_water : Int32) (xM_readWalkers : Int32) (xM_readLight : Int32) (xM_readWater : Int32) (xM_acts : Int32) (xM_told : Int32) (xM_seed : Int64) (xM_orderBest : Int32) (xM_orderMany : Int32) (xM_turned : Int32) (xMnerve : Nat → Int32) (xMkind : Nat → Int32) (xMpage : Nat → Int32) (j1 : Int32) (j2 : Int32) (z : Int32 × Int32) (hf : fX5_walker j1 j2 xM_thrown xM_walkers xMnerve xMkind xMpage = some z) : ∀ sz : Nat, Met l yX5_walker wsX5_walker ({ frames := 2, cells := 0, slots := 0, locals := 46 } : Room) (kPre D [(iMnerve, .int), (iMkind, .int), (iMpage, .int)] [oO aM 4 [.int xM_thrown, .ref aMtext, .int xM_textSize, .int xM_place, .int xM_walkers, .int xM_light, .int xM_water, .ref aMnerve, .ref aMkind, .int xM_readWalkers, .int xM_readLight, .int xM_readWater, .ref aMreadNerve, .ref aMreadKind, .ref aMpage, .ref aMtrial, .ref aMbook, .int xM_acts, .ref aMkept, .ref aMisKept, .int xM_told, .ref aMtoldMinute, .ref aMtoldHeard, .long xM_seed, .int xM_orderBest, .int xM_orderMany, .ref aMworth, .int xM_turned], oI aMnerve iMnerve 5 xMnerve, oI aMkind iMkind 5 xMkind, oI aMpage iMpage 13 xMpage] sz [.ref aM, .int j1, .int j2]) (kQi D [(iMnerve, .int), (iMkind, .int), (iMpage, .int)] [oO aM 4 [.int xM_thrown, .ref aMtext, .int xM_textSize, .int xM_place, .int xM_walkers, .int xM_light, .int xM_water, .ref aMnerve, .ref aMkind, .int xM_readWalkers, .int xM_readLight, .int xM_readWater, .ref aMreadNerve, .ref aMreadKind, .ref aMpage, .ref aMtrial, .ref aMbook, .int xM_acts, .ref aMkept, .ref aMisKept, .int xM_told, .ref aMtoldMinute, .ref aMtoldHeard, .long xM_seed, .int xM_orderBest, .int xM_orderMany, .ref aMworth, .int xM_turned], oI aMnerve iMnerve 5 xMnerve, oI aMkind iMkind 5 xMkind, oI aMpage iMpage 13 xMpage] sz [oO aM 4 [.int z.2, .ref aMtext, .int xM_textSize, .int xM_place, .int xM_walkers, .int xM_light, .int xM_water, .ref aMnerve, .ref aMkind, .int xM_readWalkers, .int xM_readLight, .int xM_readWater, .ref aMreadNerve, .ref aMreadKind, .ref aMpage, .ref aMtrial, .ref aMbook, .int xM_acts, .ref aMkept, .ref aMisKept, .int xM_told, .ref aMtoldMinute, .ref aMtoldHeard, .long xM_seed, .int xM_orderBest, .int xM_orderMany, .ref aMworth, .int xM_turned], oI aMnerve iMnerve 5 xMnerve, oI aMkind iMkind 5 xMkind, oI aMpage iMpage 13 xMpage] z.1) 0 0 (va_A [oO aM 4 [.int xM_thrown, .ref aMtext, .int xM_textSize, .int xM_place, .int xM_walkers, .int xM_light, .int xM_water, .ref aMnerve, .ref aMkind, .int xM_readWalkers, .int xM_readLight, .int xM_readWater, .ref aMreadNerve, .ref aMreadKind, .ref aMpage, .ref aMtrial, .ref aMbook, .int xM_acts, .ref aMkept, .ref aMisKept, .int xM_told, .ref aMtoldMinute, .ref aMtoldHeard, .long xM_seed, .int xM_orderBest, .int xM_orderMany, .ref aMworth, .int xM_turned], oI aMnerve iMnerve 5 xMnerve, oI aMkind iMkind 5 xMkind, oI aMpage iMpage 13 xMpage] sz) := by
  refine kMet_i (own := RX5) z (fun u => u.1) (fun u => [oO aM 4 [.int u.2, .ref aMtext, .int xM_textSize, .int xM_place, .int xM_walkers, .int xM_light, .int xM_water, .ref aMnerve, .ref aMkind, .int xM_readWalkers, .int xM_readLight, .int xM_readWater, .ref aMreadNerve, .ref aMreadKind, .ref aMpage, .ref aMtrial, .ref aMbook, .int xM_acts, .ref aMkept, .ref aMisKept, .int xM_told, .ref aMtoldMinute, .ref aMtoldHeard, .long xM_seed, .int xM_orderBest, .int xM_orderMany, .ref aMworth, .int xM_turned], oI aMnerve iMnerve 5 xMnerve, oI aMkind iMkind 5 xMkind, oI aMpage iMpage 13 xMpage]) rfl (by decide) rfl ⟨rfl, rfl⟩ (Nat.le_of_ble_eq_true rfl) ?_
  intro X hXl hXD hC hQ
  subst hXl
  subst hXD
  change kG X 0 [(0, .ref aM), (1, .int j1), (2, .int j2)] [] [oO aM 4 [.int xM_thrown, .ref aMtext, .int xM_textSize, .int xM_place, .int xM_walkers, .int xM_light, .int xM_water, .ref aMnerve, .ref aMkind, .int xM_readWalkers, .int xM_readLight, .int xM_readWater, .ref aMreadNerve, .ref aMreadKind, .ref aMpage, .ref aMtrial, .ref aMbook, .int xM_acts, .ref aMkept, .ref aMisKept, .int xM_told, .ref aMtoldMinute, .ref aMtoldHeard, .long xM_seed, .int xM_orderBest, .int xM_orderMany, .ref aMworth, .int xM_turned], oI aMnerve iMnerve 5 xMnerve, oI aMkind iMkind 5 xMkind, oI aMpage iMpage 13 xMpage]
  have hinX5 : ∀ w ∈ wsX50, w ∈ wsX5_walker := fun _ h => List.mem_cons_of_mem _ (List.mem_append_right _ h)
  have t104 : ∀  (xM_thrown : Int32), fX5_walker_b104 xM_walkers xMnerve xMkind xMpage  xM_thrown = some z → kG X 104 [] [] [oO aM 4 [.int xM_thrown, .ref aMtext, .int xM_textSize, .int xM_place, .int xM_walkers, .int xM_light, .int xM_water, .ref aMnerve, .ref aMkind, .int xM_readWalkers, .int xM_readLight, .int xM_readWater, .ref aMreadNerve, .ref aMreadKind, .ref aMpage, .ref aMtrial, .ref aMbook, .int xM_acts, .ref aMkept, .ref aMisKept, .int xM_told, .ref aMtoldMinute, .ref aMtoldHeard, .long xM_seed, .int xM_orderBest, .int xM_orderMany, .ref aMworth, .int xM_turned], oI aMnerve iMnerve 5 xMnerve, oI aMkind iMkind 5 xMkind, oI aMpage iMpage 13 xMpage] := by
    intro xM_thrown hf
    unfold fX5_walker_b104 at hf
    refine g_bipush (v := (-9 : Int32)) hC dX5_walker_104 cb_m9 ?_
    refine g_goto (tgt := 117) hC dX5_walker_106 (by decide) ?_
    exact hQ ((-9 : Int32), xM_thrown) _ _ (gd_s hf) dX5_walker_117
  unfold fX5_walker at hf
  refine g_aload_n hC 0 dX5_walker_0 rfl rfl ?_
  refine g_iconst (v := (0 : Int32)) hC dX5_walker_1 ci_0 ?_
  refine g_put (C := RX5) (T := TX5) (N := 28) (ty := .int) (ws' := [oO aM 4 [.int (0 : Int32), .ref aMtext, .int xM_textSize, .int xM_place, .int xM_walkers, .int xM_light, .int xM_water, .ref aMnerve, .ref aMkind, .int xM_readWalkers, .int xM_readLight, .int xM_readWater, .ref aMreadNerve, .ref aMreadKind, .ref aMpage, .ref aMtrial, .ref aMbook, .int xM_acts, .ref aMkept, .ref aMisKept, .int xM_told, .ref aMtoldMinute, .ref aMtoldHeard, .long xM_seed, .int xM_orderBest, .int xM_orderMany, .ref aMworth, .int xM_turned], oI aMnerve iMnerve 5 xMnerve, oI aMkind iMkind 5 xMkind, oI aMpage iMpage 13 xMpage]) hC tyX5_ok nmX5 hinX5 0 0 rfl rfl (by decide) (List.mem_of_getElem? (i := 1) rfl) rfl rfl rfl rfl (Nat.le_of_ble_eq_true rfl) dX5_walker_2 rfl ?_
  refine g_aload_n hC 0 dX5_walker_5 rfl rfl ?_
  refine g_iload_n hC 1 dX5_walker_6 rfl rfl ?_
  obtain ⟨z7, hz7, hf⟩ := gd_b hf
  refine g_callVi (wr := [oI aMnerve iMnerve 5 xMnerve, oI aMkind iMkind 5 xMkind, oI aMpage iMpage 13 xMpage]) (wn := [oO aM 4 [.int (0 : Int32), .ref aMtext, .int xM_textSize, .int xM_place, .int xM_walkers, .int xM_light, .int xM_water, .ref aMnerve, .ref aMkind, .int xM_readWalkers, .int xM_readLight, .int xM_readWater, .ref aMreadNerve, .ref aMreadKind, .ref aMpage, .ref aMtrial, .ref aMbook, .int xM_acts, .ref aMkept, .ref aMisKept, .int xM_told, .ref aMtoldMinute, .ref aMtoldHeard, .long xM_seed, .int xM_orderBest, .int xM_orderMany, .ref aMworth, .int xM_turned], oI aMnerve iMnerve 5 xMnerve, oI aMkind iMkind 5 xMkind, oI aMpage iMpage 13 xMpage]) hC [.int j1] (cX5_noOne_m (kl X) (kD X) aM aMtext aMnerve aMkind aMreadNerve aMreadKind aMpage aMtrial aMbook aMkept aMisKept aMtoldMinute aMtoldHeard aMworth (0 : Int32) xM_textSize xM_place xM_walkers xM_light xM_water xM_readWalkers xM_readLight xM_readWater xM_acts xM_told xM_seed xM_orderBest xM_orderMany xM_turned j1 z7 hz7) gX5_walker_X5_noOne rfl kyX5_noOne rfl rfl rfl (q0 := 0) rfl [0] [1, 2, 3] [] [3, 0, 1, 2] rfl rfl rfl rfl (by decide) rfl rfl rfl ⟨rfl, rfl⟩ ⟨Nat.le_of_ble_eq_true rfl, Nat.le_of_ble_eq_true rfl⟩ (Nat.le_of_ble_eq_true rfl) rfl dX5_walker_7 ?_
  refine g_if_eq (tgt := 15) hC dX5_walker_10 (by decide) (fun hc => ?_) (fun hc => ?_)
  · replace hf := gd_t hc hf
    refine g_aload_n hC 0 dX5_walker_15 rfl rfl ?_
    refine g_get (C := RX5) (T := TX5) (N := 28) (v := .ref aMpage) hC hinX5 0 14 rfl rfl (by decide) (List.mem_of_getElem? (i := 2) rfl) rfl dX5_walker_16 ?_
    refine g_iload_n hC 1 dX5_walker_19 rfl rfl ?_
    obtain ⟨z20, hz20, hf⟩ := gd_b hf
    refine g_callSi (wr := [oO aM 4 [.int (0 : Int32), .ref aMtext, .int xM_textSize, .int xM_place, .int xM_walkers, .int xM_light, .int xM_water, .ref aMnerve, .ref aMkind, .int xM_readWalkers, .int xM_readLight, .int xM_readWater, .ref aMreadNerve, .ref aMreadKind, .ref aMpage, .ref aMtrial, .ref aMbook, .int xM_acts, .ref aMkept, .ref aMisKept, .int xM_told, .ref aMtoldMinute, .ref aMtoldHeard, .long xM_seed, .int xM_orderBest, .int xM_orderMany, .ref aMworth, .int xM_turned], oI aMnerve iMnerve 5 xMnerve, oI aMkind iMkind 5 xMkind]) (wn := [oO aM 4 [.int (0 : Int32), .ref aMtext, .int xM_textSize, .int xM_place, .int xM_walkers, .int xM_light, .int xM_water, .ref aMnerve, .ref aMkind, .int xM_readWalkers, .int xM_readLight, .int xM_readWater, .ref aMreadNerve, .ref aMreadKind, .ref aMpage, .ref aMtrial, .ref aMbook, .int xM_acts, .ref aMkept, .ref aMisKept, .int xM_told, .ref aMtoldMinute, .ref aMtoldHeard, .long xM_seed, .int xM_orderBest, .int xM_orderMany, .ref aMworth, .int xM_turned], oI aMnerve iMnerve 5 xMnerve, oI aMkind iMkind 5 xMkind, oI aMpage iMpage 13 xMpage]) hC [.ref aMpage, .int j1] (cX5_placeOf_m (kl X) (kD X) aMpage iMpage xMpage j1 z20 hz20) gX5_walker_X5_placeOf rfl kyX5_placeOf rfl [3] [0, 1, 2] [2] [0, 1, 2, 3] rfl rfl rfl rfl (by decide) rfl rfl rfl ⟨rfl, rfl⟩ ⟨Nat.le_of_ble_eq_true rfl, Nat.le_of_ble_eq_true rfl⟩ (Nat.le_of_ble_eq_true rfl) rfl dX5_walker_20 ?_
    refine g_istore_n (lv' := [(3, .int z20), (0, .ref aM), (1, .int j1), (2, .int j2)]) hC dX5_walker_23 rfl (by decide) rfl ?_
    refine g_iload_n hC 3 dX5_walker_24 rfl rfl ?_
    by_cases c0 : j2 = (0 : Int32)
    · replace hf := gd_t c0 hf
      refine g_tableIn (tgt := 60) hC c0 dX5_walker_25 (by decide) (by decide) rfl (by decide) ?_
      refine g_aload_n hC 1 dX5_walker_60 rfl rfl ?_
      refine g_get (C := RX5) (T := TX5) (N := 28) (v := .ref aMnerve) hC hinX5 0 7 rfl rfl (by decide) (List.mem_of_getElem? (i := 3) rfl) rfl dX5_walker_61 ?_
      refine g_iload_n hC 2 dX5_walker_64 rfl rfl ?_
      obtain ⟨hg, hf⟩ := gd_ga hf
      refine g_iald hC 1 0 hg rfl rfl dX5_walker_65 ?_
      exact hQ ((xMnerve j1.toNatClampNeg), (0 : Int32)) _ _ (gd_s hf) dX5_walker_66
    replace hf := gd_f c0 hf
    by_cases c1 : j2 = (1 : Int32)
    · replace hf := gd_t c1 hf
      refine g_tableIn (tgt := 67) hC c1 dX5_walker_25 (by decide) (by decide) rfl (by decide) ?_
      refine g_aload_n hC 1 dX5_walker_67 rfl rfl ?_
      refine g_get (C := RX5) (T := TX5) (N := 28) (v := .ref aMkind) hC hinX5 0 8 rfl rfl (by decide) (List.mem_of_getElem? (i := 4) rfl) rfl dX5_walker_68 ?_
      refine g_iload_n hC 2 dX5_walker_71 rfl rfl ?_
      obtain ⟨hg, hf⟩ := gd_ga hf
      refine g_iald hC 2 1 hg rfl rfl dX5_walker_72 ?_
      exact hQ ((xMkind j1.toNatClampNeg), (0 : Int32)) _ _ (gd_s hf) dX5_walker_73
    replace hf := gd_f c1 hf
    by_cases c2 : j2 = (2 : Int32)
    · replace hf := gd_t c2 hf
      refine g_tableIn (tgt := 74) hC c2 dX5_walker_25 (by decide) (by decide) rfl (by decide) ?_
      refine g_aload_n hC 1 dX5_walker_74 rfl rfl ?_
      refine g_get (C := RX5) (T := TX5) (N := 28) (v := .ref aMpage) hC hinX5 0 14 rfl rfl (by decide) (List.mem_of_getElem? (i := 2) rfl) rfl dX5_walker_75 ?_
      refine g_bipush (v := (6 : Int32)) hC dX5_walker_78 cb_6 ?_
      refine g_iload_n hC 2 dX5_walker_80 rfl rfl ?_
      refine g_iadd hC dX5_walker_81 ?_
      obtain ⟨hg, hf⟩ := gd_ga hf
      refine g_iald hC 3 2 hg rfl rfl dX5_walker_82 ?_
      exact hQ ((xMpage ((6 : Int32) + j1).toNatClampNeg), (0 : Int32)) _ _ (gd_s hf) dX5_walker_83
    replace hf := gd_f c2 hf
    by_cases c3 : j2 = (3 : Int32)
    · replace hf := gd_t c3 hf
      refine g_tableIn (tgt := 84) hC c3 dX5_walker_25 (by decide) (by decide) rfl (by decide) ?_
      refine g_iload_n hC 0 dX5_walker_84 rfl rfl ?_
      exact hQ (z20, (0 : Int32)) _ _ (gd_s hf) dX5_walker_85
    replace hf := gd_f c3 hf
    by_cases c4 : j2 = (4 : Int32)
    · replace hf := gd_t c4 hf
      refine g_tableIn (tgt := 86) hC c4 dX5_walker_25 (by decide) (by decide) rfl (by decide) ?_
      refine g_iload_n hC 0 dX5_walker_86 rfl rfl ?_
      refine g_bipush (v := (-9 : Int32)) hC dX5_walker_87 cb_m9 ?_
      refine g_icmp_eq (tgt := 104) hC dX5_walker_89 (by decide) (fun hc => ?_) (fun hc => ?_)
      · replace hf := gd_t hc hf
        refine g_lv (lv' := []) [] rfl ?_
        exact t104  (0 : Int32) hf
      · replace hf := gd_f hc hf
        refine g_iload_n hC 0 dX5_walker_92 rfl rfl ?_
        refine g_iconst (v := (1 : Int32)) hC dX5_walker_93 ci_1 ?_
        refine g_iadd hC dX5_walker_94 ?_
        refine g_aload_n hC 1 dX5_walker_95 rfl rfl ?_
        refine g_get (C := RX5) (T := TX5) (N := 28) (v := .ref aMpage) hC hinX5 0 14 rfl rfl (by decide) (List.mem_of_getElem? (i := 2) rfl) rfl dX5_walker_96 ?_
        refine g_iconst (v := (5 : Int32)) hC dX5_walker_99 ci_5 ?_
        obtain ⟨hg, hf⟩ := gd_ga hf
        refine g_iald hC 3 2 hg rfl rfl dX5_walker_100 ?_
        refine g_icmp_ne (tgt := 109) hC dX5_walker_101 (by decide) (fun hc => ?_) (fun hc => ?_)
        · replace hf := gd_f hc hf
          refine g_aload_n hC 1 dX5_walker_109 rfl rfl ?_
          refine g_get (C := RX5) (T := TX5) (N := 28) (v := .ref aMpage) hC hinX5 0 14 rfl rfl (by decide) (List.mem_of_getElem? (i := 2) rfl) rfl dX5_walker_110 ?_
          refine g_iload_n hC 0 dX5_walker_113 rfl rfl ?_
          refine g_iconst (v := (1 : Int32)) hC dX5_walker_114 ci_1 ?_
          refine g_iadd hC dX5_walker_115 ?_
          obtain ⟨hg, hf⟩ := gd_ga hf
          refine g_iald hC 3 2 hg rfl rfl dX5_walker_116 ?_
          exact hQ ((xMpage (z20 + (1 : Int32)).toNatClampNeg), (0 : Int32)) _ _ (gd_s hf) dX5_walker_117
        · replace hf := gd_t hc hf
          refine g_lv (lv' := []) [] rfl ?_
          exact t104  (0 : Int32) hf
    replace hf := gd_f c4 hf
    refine g_tableOut (tgt := 118) hC dX5_walker_25 (by have e0 := lv_neT c0 (a := 0) (by decide); have e1 := lv_neT c1 (a := 1) (by decide); have e2 := lv_neT c2 (a := 2) (by decide); have e3 := lv_neT c3 (a := 3) (by decide); have e4 := lv_neT c4 (a := 4) (by decide); omega) (by decide) ?_
    refine g_bipush (v := (-2 : Int32)) hC dX5_walker_118 cb_m2 ?_
    exact hQ ((-2 : Int32), (0 : Int32)) _ _ (gd_s hf) dX5_walker_120
  · replace hf := gd_f hc hf
    refine g_iconst (v := (-1 : Int32)) hC dX5_walker_13 ci_m1 ?_
    exact hQ ((-1 : Int32), (0 : Int32)) _ _ (gd_s hf) dX5_walker_14
theorem kyX5_note : yX5_note.cls = RX5 ∧ yX5_note.cls ≠ "java/lang/invoke/MethodHandle" ∧ yX5_note.cls ≠ "java/lang/invoke/VarHandle" ∧ (parseMethodDescriptor yX5_note.desc).map (fun d => d.parameters.length) = some 0 := by decide +kernel
set_option maxHeartbeats 4000000 in
set_option maxRecDepth 100000 in
theorem cX5_note_m (l : Launch) (D : va_G) (aM aMtext aMnerve aMkind aMreadNerve aMreadKind aMpage aMtrial aMbook aMkept aMisKept aMtoldMinute aMtoldHeard aMworth : Nat) (iMpage iMbook : ClassId) (xM_thrown : Int32) (xM_textSize : Int32) (xM_place : Int32) (xM_walkers : Int32) (xM_light : Int32) (xM_water : Int32) (xM_readWalkers : Int32) (xM_readLight : Int32) (xM_readWater : Int32) (xM_acts : Int32) (xM_told : Int32) (xM_seed : Int64) (xM_orderBest : Int32) (xM_orderMany : Int32) (xM_turned : Int32) (xMpage : Nat → Int32) (xMbook : Nat → Int32)  (z : Int32 × (Nat → Int32)) (hf : fX5_note xM_acts xMpage xMbook = some z) : ∀ sz : Nat, Met l yX5_note wsX5_note ({ frames := 0, cells := 0, slots := 0, locals := 0 } : Room) (kPre D [(iMpage, .int), (iMbook, .int)] [oO aM 4 [.int xM_thrown, .ref aMtext, .int xM_textSize, .int xM_place, .int xM_walkers, .int xM_light, .int xM_water, .ref aMnerve, .ref aMkind, .int xM_readWalkers, .int xM_readLight, .int xM_readWater, .ref aMreadNerve, .ref aMreadKind, .ref aMpage, .ref aMtrial, .ref aMbook, .int xM_acts, .ref aMkept, .ref aMisKept, .int xM_told, .ref aMtoldMinute, .ref aMtoldHeard, .long xM_seed, .int xM_orderBest, .int xM_orderMany, .ref aMworth, .int xM_turned], oI aMpage iMpage 13 xMpage, oI aMbook iMbook 182 xMbook] sz [.ref aM]) (kQv D [(iMpage, .int), (iMbook, .int)] [oO aM 4 [.int xM_thrown, .ref aMtext, .int xM_textSize, .int xM_place, .int xM_walkers, .int xM_light, .int xM_water, .ref aMnerve, .ref aMkind, .int xM_readWalkers, .int xM_readLight, .int xM_readWater, .ref aMreadNerve, .ref aMreadKind, .ref aMpage, .ref aMtrial, .ref aMbook, .int xM_acts, .ref aMkept, .ref aMisKept, .int xM_told, .ref aMtoldMinute, .ref aMtoldHeard, .long xM_seed, .int xM_orderBest, .int xM_orderMany, .ref aMworth, .int xM_turned], oI aMpage iMpage 13 xMpage, oI aMbook iMbook 182 xMbook] sz [oO aM 4 [.int xM_thrown, .ref aMtext, .int xM_textSize, .int xM_place, .int xM_walkers, .int xM_light, .int xM_water, .ref aMnerve, .ref aMkind, .int xM_readWalkers, .int xM_readLight, .int xM_readWater, .ref aMreadNerve, .ref aMreadKind, .ref aMpage, .ref aMtrial, .ref aMbook, .int z.1, .ref aMkept, .ref aMisKept, .int xM_told, .ref aMtoldMinute, .ref aMtoldHeard, .long xM_seed, .int xM_orderBest, .int xM_orderMany, .ref aMworth, .int xM_turned], oI aMpage iMpage 13 xMpage, oI aMbook iMbook 182 z.2]) 0 0 (va_A [oO aM 4 [.int xM_thrown, .ref aMtext, .int xM_textSize, .int xM_place, .int xM_walkers, .int xM_light, .int xM_water, .ref aMnerve, .ref aMkind, .int xM_readWalkers, .int xM_readLight, .int xM_readWater, .ref aMreadNerve, .ref aMreadKind, .ref aMpage, .ref aMtrial, .ref aMbook, .int xM_acts, .ref aMkept, .ref aMisKept, .int xM_told, .ref aMtoldMinute, .ref aMtoldHeard, .long xM_seed, .int xM_orderBest, .int xM_orderMany, .ref aMworth, .int xM_turned], oI aMpage iMpage 13 xMpage, oI aMbook iMbook 182 xMbook] sz) := by
  refine kMet_v (own := RX5) z (fun u => [oO aM 4 [.int xM_thrown, .ref aMtext, .int xM_textSize, .int xM_place, .int xM_walkers, .int xM_light, .int xM_water, .ref aMnerve, .ref aMkind, .int xM_readWalkers, .int xM_readLight, .int xM_readWater, .ref aMreadNerve, .ref aMreadKind, .ref aMpage, .ref aMtrial, .ref aMbook, .int u.1, .ref aMkept, .ref aMisKept, .int xM_told, .ref aMtoldMinute, .ref aMtoldHeard, .long xM_seed, .int xM_orderBest, .int xM_orderMany, .ref aMworth, .int xM_turned], oI aMpage iMpage 13 xMpage, oI aMbook iMbook 182 u.2]) rfl (by decide) rfl ⟨rfl, rfl⟩ (Nat.le_of_ble_eq_true rfl) ?_
  intro X hXl hXD hC hQ
  subst hXl
  subst hXD
  change kG X 0 [(0, .ref aM)] [] [oO aM 4 [.int xM_thrown, .ref aMtext, .int xM_textSize, .int xM_place, .int xM_walkers, .int xM_light, .int xM_water, .ref aMnerve, .ref aMkind, .int xM_readWalkers, .int xM_readLight, .int xM_readWater, .ref aMreadNerve, .ref aMreadKind, .ref aMpage, .ref aMtrial, .ref aMbook, .int xM_acts, .ref aMkept, .ref aMisKept, .int xM_told, .ref aMtoldMinute, .ref aMtoldHeard, .long xM_seed, .int xM_orderBest, .int xM_orderMany, .ref aMworth, .int xM_turned], oI aMpage iMpage 13 xMpage, oI aMbook iMbook 182 xMbook]
  have hinX5 : ∀ w ∈ wsX50, w ∈ wsX5_note := fun _ h => List.mem_cons_of_mem _ (List.mem_append_right _ h)
  have t51 : ∀  (n : Nat) (j1 : Int32) (xM_acts : Int32) (xMbook : Nat → Int32), lp (fun _ _ _ => none) (fX5_note_b51_S xMpage ) n j1 xM_acts xMbook = some z → kG X 51 [(0, .ref aM), (1, .int j1)] [] [oO aM 4 [.int xM_thrown, .ref aMtext, .int xM_textSize, .int xM_place, .int xM_walkers, .int xM_light, .int xM_water, .ref aMnerve, .ref aMkind, .int xM_readWalkers, .int xM_readLight, .int xM_readWater, .ref aMreadNerve, .ref aMreadKind, .ref aMpage, .ref aMtrial, .ref aMbook, .int xM_acts, .ref aMkept, .ref aMisKept, .int xM_told, .ref aMtoldMinute, .ref aMtoldHeard, .long xM_seed, .int xM_orderBest, .int xM_orderMany, .ref aMworth, .int xM_turned], oI aMpage iMpage 13 xMpage, oI aMbook iMbook 182 xMbook] := by
    intro  n
    induction n with
    | zero => intro j1 xM_acts xMbook hf; cases hf
    | succ n hk51 =>
      intro j1 xM_acts xMbook hf
      rw [lp_s] at hf
      revert hf hk51
      generalize lp (fun _ _ _ => none) (fX5_note_b51_S xMpage ) n = k51
      intro hk51 hf
      unfold fX5_note_b51_S at hf
      refine g_iload_n hC 1 dX5_note_51 rfl rfl ?_
      refine g_bipush (v := (13 : Int32)) hC dX5_note_52 cb_13 ?_
      refine g_icmp_ge (tgt := 83) hC dX5_note_54 (by decide) (fun hc => ?_) (fun hc => ?_)
      · replace hf := gd_t hc hf
        refine g_aload_n hC 0 dX5_note_83 rfl rfl ?_
        refine g_dup hC dX5_note_84 rfl ?_
        refine g_get (C := RX5) (T := TX5) (N := 28) (v := .int xM_acts) hC hinX5 0 17 rfl rfl (by decide) (List.mem_of_getElem? (i := 1) rfl) rfl dX5_note_85 ?_
        refine g_iconst (v := (1 : Int32)) hC dX5_note_88 ci_1 ?_
        refine g_iadd hC dX5_note_89 ?_
        refine g_put (C := RX5) (T := TX5) (N := 28) (ty := .int) (ws' := [oO aM 4 [.int xM_thrown, .ref aMtext, .int xM_textSize, .int xM_place, .int xM_walkers, .int xM_light, .int xM_water, .ref aMnerve, .ref aMkind, .int xM_readWalkers, .int xM_readLight, .int xM_readWater, .ref aMreadNerve, .ref aMreadKind, .ref aMpage, .ref aMtrial, .ref aMbook, .int (xM_acts + (1 : Int32)), .ref aMkept, .ref aMisKept, .int xM_told, .ref aMtoldMinute, .ref aMtoldHeard, .long xM_seed, .int xM_orderBest, .int xM_orderMany, .ref aMworth, .int xM_turned], oI aMpage iMpage 13 xMpage, oI aMbook iMbook 182 xMbook]) hC tyX5_ok nmX5 hinX5 0 17 rfl rfl (by decide) (List.mem_of_getElem? (i := 1) rfl) rfl rfl rfl rfl (Nat.le_of_ble_eq_true rfl) dX5_note_90 rfl ?_
        exact hQ ((xM_acts + (1 : Int32)), xMbook) _ _ (gd_s hf) dX5_note_93
      · replace hf := gd_f hc hf
        refine g_aload_n hC 0 dX5_note_57 rfl rfl ?_
        refine g_get (C := RX5) (T := TX5) (N := 28) (v := .ref aMbook) hC hinX5 0 16 rfl rfl (by decide) (List.mem_of_getElem? (i := 2) rfl) rfl dX5_note_58 ?_
        refine g_bipush (v := (13 : Int32)) hC dX5_note_61 cb_13 ?_
        refine g_aload_n hC 0 dX5_note_63 rfl rfl ?_
        refine g_get (C := RX5) (T := TX5) (N := 28) (v := .int xM_acts) hC hinX5 0 17 rfl rfl (by decide) (List.mem_of_getElem? (i := 1) rfl) rfl dX5_note_64 ?_
        refine g_imul hC dX5_note_67 ?_
        refine g_iload_n hC 1 dX5_note_68 rfl rfl ?_
        refine g_iadd hC dX5_note_69 ?_
        refine g_aload_n hC 0 dX5_note_70 rfl rfl ?_
        refine g_get (C := RX5) (T := TX5) (N := 28) (v := .ref aMpage) hC hinX5 0 14 rfl rfl (by decide) (List.mem_of_getElem? (i := 3) rfl) rfl dX5_note_71 ?_
        refine g_iload_n hC 1 dX5_note_74 rfl rfl ?_
        obtain ⟨hg, hf⟩ := gd_ga hf
        refine g_iald hC 1 0 hg rfl rfl dX5_note_75 ?_
        obtain ⟨hg, hf⟩ := gd_ga hf
        refine g_iast (ws' := [oO aM 4 [.int xM_thrown, .ref aMtext, .int xM_textSize, .int xM_place, .int xM_walkers, .int xM_light, .int xM_water, .ref aMnerve, .ref aMkind, .int xM_readWalkers, .int xM_readLight, .int xM_readWater, .ref aMreadNerve, .ref aMreadKind, .ref aMpage, .ref aMtrial, .ref aMbook, .int xM_acts, .ref aMkept, .ref aMisKept, .int xM_told, .ref aMtoldMinute, .ref aMtoldHeard, .long xM_seed, .int xM_orderBest, .int xM_orderMany, .ref aMworth, .int xM_turned], oI aMpage iMpage 13 xMpage, oI aMbook iMbook 182 (upd xMbook (((13 : Int32) * xM_acts) + j1).toNatClampNeg (xMpage j1.toNatClampNeg))]) hC 2 1 hg rfl rfl dX5_note_76 rfl ?_
        refine g_iinc (v := (j1 + (1 : Int32))) (lv' := [(1, .int (j1 + (1 : Int32))), (0, .ref aM)]) hC 1 dX5_note_77 rfl (ii _ ci_1) (by decide) rfl ?_
        refine g_goto (tgt := 51) hC dX5_note_80 (by decide) ?_
        refine g_lv (lv' := [(0, .ref aM), (1, .int (j1 + (1 : Int32)))]) [1, 0] rfl ?_
        exact hk51 (j1 + (1 : Int32)) xM_acts (upd xMbook (((13 : Int32) * xM_acts) + j1).toNatClampNeg (xMpage j1.toNatClampNeg)) hf
  have t49 : ∀  (xM_acts : Int32) (xMbook : Nat → Int32), fX5_note_b49 xMpage  xM_acts xMbook = some z → kG X 49 [(0, .ref aM)] [] [oO aM 4 [.int xM_thrown, .ref aMtext, .int xM_textSize, .int xM_place, .int xM_walkers, .int xM_light, .int xM_water, .ref aMnerve, .ref aMkind, .int xM_readWalkers, .int xM_readLight, .int xM_readWater, .ref aMreadNerve, .ref aMreadKind, .ref aMpage, .ref aMtrial, .ref aMbook, .int xM_acts, .ref aMkept, .ref aMisKept, .int xM_told, .ref aMtoldMinute, .ref aMtoldHeard, .long xM_seed, .int xM_orderBest, .int xM_orderMany, .ref aMworth, .int xM_turned], oI aMpage iMpage 13 xMpage, oI aMbook iMbook 182 xMbook] := by
    intro xM_acts xMbook hf
    unfold fX5_note_b49 at hf
    refine g_iconst (v := (0 : Int32)) hC dX5_note_49 ci_0 ?_
    refine g_istore_n (lv' := [(1, .int (0 : Int32)), (0, .ref aM)]) hC dX5_note_50 rfl (by decide) rfl ?_
    refine g_lv (lv' := [(0, .ref aM), (1, .int (0 : Int32))]) [1, 0] rfl ?_
    exact t51  fu (0 : Int32) xM_acts xMbook hf
  have t11 : ∀  (n : Nat) (j1 : Int32) (xM_acts : Int32) (xMbook : Nat → Int32), lp (fun _ _ _ => none) (fX5_note_b11_S xMpage ) n j1 xM_acts xMbook = some z → kG X 11 [(0, .ref aM), (1, .int j1)] [] [oO aM 4 [.int xM_thrown, .ref aMtext, .int xM_textSize, .int xM_place, .int xM_walkers, .int xM_light, .int xM_water, .ref aMnerve, .ref aMkind, .int xM_readWalkers, .int xM_readLight, .int xM_readWater, .ref aMreadNerve, .ref aMreadKind, .ref aMpage, .ref aMtrial, .ref aMbook, .int xM_acts, .ref aMkept, .ref aMisKept, .int xM_told, .ref aMtoldMinute, .ref aMtoldHeard, .long xM_seed, .int xM_orderBest, .int xM_orderMany, .ref aMworth, .int xM_turned], oI aMpage iMpage 13 xMpage, oI aMbook iMbook 182 xMbook] := by
    intro  n
    induction n with
    | zero => intro j1 xM_acts xMbook hf; cases hf
    | succ n hk11 =>
      intro j1 xM_acts xMbook hf
      rw [lp_s] at hf
      revert hf hk11
      generalize lp (fun _ _ _ => none) (fX5_note_b11_S xMpage ) n = k11
      intro hk11 hf
      unfold fX5_note_b11_S at hf
      refine g_iload_n hC 1 dX5_note_11 rfl rfl ?_
      refine g_sipush (v := (169 : Int32)) hC dX5_note_12 cs_169 ?_
      refine g_icmp_ge (tgt := 39) hC dX5_note_15 (by decide) (fun hc => ?_) (fun hc => ?_)
      · replace hf := gd_t hc hf
        refine g_aload_n hC 0 dX5_note_39 rfl rfl ?_
        refine g_dup hC dX5_note_40 rfl ?_
        refine g_get (C := RX5) (T := TX5) (N := 28) (v := .int xM_acts) hC hinX5 0 17 rfl rfl (by decide) (List.mem_of_getElem? (i := 1) rfl) rfl dX5_note_41 ?_
        refine g_iconst (v := (1 : Int32)) hC dX5_note_44 ci_1 ?_
        refine g_isub hC dX5_note_45 ?_
        refine g_put (C := RX5) (T := TX5) (N := 28) (ty := .int) (ws' := [oO aM 4 [.int xM_thrown, .ref aMtext, .int xM_textSize, .int xM_place, .int xM_walkers, .int xM_light, .int xM_water, .ref aMnerve, .ref aMkind, .int xM_readWalkers, .int xM_readLight, .int xM_readWater, .ref aMreadNerve, .ref aMreadKind, .ref aMpage, .ref aMtrial, .ref aMbook, .int (xM_acts - (1 : Int32)), .ref aMkept, .ref aMisKept, .int xM_told, .ref aMtoldMinute, .ref aMtoldHeard, .long xM_seed, .int xM_orderBest, .int xM_orderMany, .ref aMworth, .int xM_turned], oI aMpage iMpage 13 xMpage, oI aMbook iMbook 182 xMbook]) hC tyX5_ok nmX5 hinX5 0 17 rfl rfl (by decide) (List.mem_of_getElem? (i := 1) rfl) rfl rfl rfl rfl (Nat.le_of_ble_eq_true rfl) dX5_note_46 rfl ?_
        refine g_lv (lv' := [(0, .ref aM)]) [0] rfl ?_
        exact t49  (xM_acts - (1 : Int32)) xMbook hf
      · replace hf := gd_f hc hf
        refine g_aload_n hC 0 dX5_note_18 rfl rfl ?_
        refine g_get (C := RX5) (T := TX5) (N := 28) (v := .ref aMbook) hC hinX5 0 16 rfl rfl (by decide) (List.mem_of_getElem? (i := 2) rfl) rfl dX5_note_19 ?_
        refine g_iload_n hC 1 dX5_note_22 rfl rfl ?_
        refine g_aload_n hC 0 dX5_note_23 rfl rfl ?_
        refine g_get (C := RX5) (T := TX5) (N := 28) (v := .ref aMbook) hC hinX5 0 16 rfl rfl (by decide) (List.mem_of_getElem? (i := 2) rfl) rfl dX5_note_24 ?_
        refine g_iload_n hC 1 dX5_note_27 rfl rfl ?_
        refine g_bipush (v := (13 : Int32)) hC dX5_note_28 cb_13 ?_
        refine g_iadd hC dX5_note_30 ?_
        obtain ⟨hg, hf⟩ := gd_ga hf
        refine g_iald hC 2 1 hg rfl rfl dX5_note_31 ?_
        obtain ⟨hg, hf⟩ := gd_ga hf
        refine g_iast (ws' := [oO aM 4 [.int xM_thrown, .ref aMtext, .int xM_textSize, .int xM_place, .int xM_walkers, .int xM_light, .int xM_water, .ref aMnerve, .ref aMkind, .int xM_readWalkers, .int xM_readLight, .int xM_readWater, .ref aMreadNerve, .ref aMreadKind, .ref aMpage, .ref aMtrial, .ref aMbook, .int xM_acts, .ref aMkept, .ref aMisKept, .int xM_told, .ref aMtoldMinute, .ref aMtoldHeard, .long xM_seed, .int xM_orderBest, .int xM_orderMany, .ref aMworth, .int xM_turned], oI aMpage iMpage 13 xMpage, oI aMbook iMbook 182 (upd xMbook j1.toNatClampNeg (xMbook (j1 + (13 : Int32)).toNatClampNeg))]) hC 2 1 hg rfl rfl dX5_note_32 rfl ?_
        refine g_iinc (v := (j1 + (1 : Int32))) (lv' := [(1, .int (j1 + (1 : Int32))), (0, .ref aM)]) hC 1 dX5_note_33 rfl (ii _ ci_1) (by decide) rfl ?_
        refine g_goto (tgt := 11) hC dX5_note_36 (by decide) ?_
        refine g_lv (lv' := [(0, .ref aM), (1, .int (j1 + (1 : Int32)))]) [1, 0] rfl ?_
        exact hk11 (j1 + (1 : Int32)) xM_acts (upd xMbook j1.toNatClampNeg (xMbook (j1 + (13 : Int32)).toNatClampNeg)) hf
  unfold fX5_note at hf
  refine g_aload_n hC 0 dX5_note_0 rfl rfl ?_
  refine g_get (C := RX5) (T := TX5) (N := 28) (v := .int xM_acts) hC hinX5 0 17 rfl rfl (by decide) (List.mem_of_getElem? (i := 1) rfl) rfl dX5_note_1 ?_
  refine g_bipush (v := (14 : Int32)) hC dX5_note_4 cb_14 ?_
  refine g_icmp_ne (tgt := 49) hC dX5_note_6 (by decide) (fun hc => ?_) (fun hc => ?_)
  · replace hf := gd_f hc hf
    exact t49  xM_acts xMbook hf
  · replace hf := gd_t hc hf
    refine g_iconst (v := (0 : Int32)) hC dX5_note_9 ci_0 ?_
    refine g_istore_n (lv' := [(1, .int (0 : Int32)), (0, .ref aM)]) hC dX5_note_10 rfl (by decide) rfl ?_
    refine g_lv (lv' := [(0, .ref aM), (1, .int (0 : Int32))]) [1, 0] rfl ?_
    exact t11  fu (0 : Int32) xM_acts xMbook hf
theorem kyX5_has : yX5_has.cls ≠ "java/lang/invoke/MethodHandle" ∧ yX5_has.cls ≠ "java/lang/invoke/VarHandle" ∧ (parseMethodDescriptor yX5_has.desc).map (fun d => d.parameters.length) = some 2 := by decide +kernel
set_option maxHeartbeats 4000000 in
set_option maxRecDepth 100000 in
theorem cX5_has_m (l : Launch) (D : va_G)  (j0 : Int32) (j1 : Int32) (z : Int32) (hf : fX5_has j0 j1 = some z) : ∀ sz : Nat, Met l yX5_has wsX5_has ({ frames := 0, cells := 0, slots := 0, locals := 0 } : Room) (kPre D [] [] sz [.int j0, .int j1]) (kQi D [] [] sz [] z) 0 0 (va_A [] sz) := by
  refine kMet_z (own := RX5) z (fun u => u) (fun u => []) rfl (by decide) rfl ⟨rfl, rfl⟩ (Nat.le_of_ble_eq_true rfl) ?_
  intro X hXl hXD hC hQ
  subst hXl
  subst hXD
  change kG X 0 [(0, .int j0), (1, .int j1)] [] []
  unfold fX5_has at hf
  refine g_iload_n hC 0 dX5_has_0 rfl rfl ?_
  refine g_iload_n hC 1 dX5_has_1 rfl rfl ?_
  refine g_ishr hC dX5_has_2 ?_
  refine g_iconst (v := (1 : Int32)) hC dX5_has_3 ci_1 ?_
  refine g_iand hC dX5_has_4 ?_
  refine g_iconst (v := (1 : Int32)) hC dX5_has_5 ci_1 ?_
  refine g_icmp_ne (tgt := 13) hC dX5_has_6 (by decide) (fun hc => ?_) (fun hc => ?_)
  · replace hf := gd_f hc hf
    refine g_iconst (v := (0 : Int32)) hC dX5_has_13 ci_0 ?_
    exact hQ ((0 : Int32)) _ _ (gd_s hf) (nz_of (Or.inl rfl)) dX5_has_14
  · replace hf := gd_t hc hf
    refine g_iconst (v := (1 : Int32)) hC dX5_has_9 ci_1 ?_
    refine g_goto (tgt := 14) hC dX5_has_10 (by decide) ?_
    exact hQ ((1 : Int32)) _ _ (gd_s hf) (nz_of (Or.inr rfl)) dX5_has_14
theorem kyX5_isHeard : yX5_isHeard.cls = RX5 ∧ yX5_isHeard.cls ≠ "java/lang/invoke/MethodHandle" ∧ yX5_isHeard.cls ≠ "java/lang/invoke/VarHandle" ∧ (parseMethodDescriptor yX5_isHeard.desc).map (fun d => d.parameters.length) = some 3 := by decide +kernel
set_option maxHeartbeats 4000000 in
set_option maxRecDepth 100000 in
theorem cX5_isHeard_m (l : Launch) (D : va_G) (aM aMtext aMnerve aMkind aMreadNerve aMreadKind aMpage aMtrial aMbook aMkept aMisKept aMtoldMinute aMtoldHeard aMworth aA : Nat) (iMkind iA : ClassId) (xM_thrown : Int32) (xM_textSize : Int32) (xM_place : Int32) (xM_walkers : Int32) (xM_light : Int32) (xM_water : Int32) (xM_readWalkers : Int32) (xM_readLight : Int32) (xM_readWater : Int32) (xM_acts : Int32) (xM_told : Int32) (xM_seed : Int64) (xM_orderBest : Int32) (xM_orderMany : Int32) (xM_turned : Int32) (xMkind : Nat → Int32) (xA : Nat → Int32) (j2 : Int32) (j3 : Int32) (z : Int32) (hf : fX5_isHeard j2 j3 xM_water xMkind xA = some z) : ∀ sz : Nat, Met l yX5_isHeard wsX5_isHeard ({ frames := 1, cells := 0, slots := 0, locals := 21 } : Room) (kPre D [(iMkind, .int), (iA, .int)] [oO aM 4 [.int xM_thrown, .ref aMtext, .int xM_textSize, .int xM_place, .int xM_walkers, .int xM_light, .int xM_water, .ref aMnerve, .ref aMkind, .int xM_readWalkers, .int xM_readLight, .int xM_readWater, .ref aMreadNerve, .ref aMreadKind, .ref aMpage, .ref aMtrial, .ref aMbook, .int xM_acts, .ref aMkept, .ref aMisKept, .int xM_told, .ref aMtoldMinute, .ref aMtoldHeard, .long xM_seed, .int xM_orderBest, .int xM_orderMany, .ref aMworth, .int xM_turned], oI aMkind iMkind 5 xMkind, oI aA iA 13 xA] sz [.ref aM, .ref aA, .int j2, .int j3]) (kQi D [(iMkind, .int), (iA, .int)] [oO aM 4 [.int xM_thrown, .ref aMtext, .int xM_textSize, .int xM_place, .int xM_walkers, .int xM_light, .int xM_water, .ref aMnerve, .ref aMkind, .int xM_readWalkers, .int xM_readLight, .int xM_readWater, .ref aMreadNerve, .ref aMreadKind, .ref aMpage, .ref aMtrial, .ref aMbook, .int xM_acts, .ref aMkept, .ref aMisKept, .int xM_told, .ref aMtoldMinute, .ref aMtoldHeard, .long xM_seed, .int xM_orderBest, .int xM_orderMany, .ref aMworth, .int xM_turned], oI aMkind iMkind 5 xMkind, oI aA iA 13 xA] sz [oO aM 4 [.int xM_thrown, .ref aMtext, .int xM_textSize, .int xM_place, .int xM_walkers, .int xM_light, .int xM_water, .ref aMnerve, .ref aMkind, .int xM_readWalkers, .int xM_readLight, .int xM_readWater, .ref aMreadNerve, .ref aMreadKind, .ref aMpage, .ref aMtrial, .ref aMbook, .int xM_acts, .ref aMkept, .ref aMisKept, .int xM_told, .ref aMtoldMinute, .ref aMtoldHeard, .long xM_seed, .int xM_orderBest, .int xM_orderMany, .ref aMworth, .int xM_turned], oI aMkind iMkind 5 xMkind, oI aA iA 13 xA] z) 0 0 (va_A [oO aM 4 [.int xM_thrown, .ref aMtext, .int xM_textSize, .int xM_place, .int xM_walkers, .int xM_light, .int xM_water, .ref aMnerve, .ref aMkind, .int xM_readWalkers, .int xM_readLight, .int xM_readWater, .ref aMreadNerve, .ref aMreadKind, .ref aMpage, .ref aMtrial, .ref aMbook, .int xM_acts, .ref aMkept, .ref aMisKept, .int xM_told, .ref aMtoldMinute, .ref aMtoldHeard, .long xM_seed, .int xM_orderBest, .int xM_orderMany, .ref aMworth, .int xM_turned], oI aMkind iMkind 5 xMkind, oI aA iA 13 xA] sz) := by
  refine kMet_z (own := RX5) z (fun u => u) (fun u => [oO aM 4 [.int xM_thrown, .ref aMtext, .int xM_textSize, .int xM_place, .int xM_walkers, .int xM_light, .int xM_water, .ref aMnerve, .ref aMkind, .int xM_readWalkers, .int xM_readLight, .int xM_readWater, .ref aMreadNerve, .ref aMreadKind, .ref aMpage, .ref aMtrial, .ref aMbook, .int xM_acts, .ref aMkept, .ref aMisKept, .int xM_told, .ref aMtoldMinute, .ref aMtoldHeard, .long xM_seed, .int xM_orderBest, .int xM_orderMany, .ref aMworth, .int xM_turned], oI aMkind iMkind 5 xMkind, oI aA iA 13 xA]) rfl (by decide) rfl ⟨rfl, rfl⟩ (Nat.le_of_ble_eq_true rfl) ?_
  intro X hXl hXD hC hQ
  subst hXl
  subst hXD
  change kG X 0 [(0, .ref aM), (1, .ref aA), (2, .int j2), (3, .int j3)] [] [oO aM 4 [.int xM_thrown, .ref aMtext, .int xM_textSize, .int xM_place, .int xM_walkers, .int xM_light, .int xM_water, .ref aMnerve, .ref aMkind, .int xM_readWalkers, .int xM_readLight, .int xM_readWater, .ref aMreadNerve, .ref aMreadKind, .ref aMpage, .ref aMtrial, .ref aMbook, .int xM_acts, .ref aMkept, .ref aMisKept, .int xM_told, .ref aMtoldMinute, .ref aMtoldHeard, .long xM_seed, .int xM_orderBest, .int xM_orderMany, .ref aMworth, .int xM_turned], oI aMkind iMkind 5 xMkind, oI aA iA 13 xA]
  have hinX5 : ∀ w ∈ wsX50, w ∈ wsX5_isHeard := fun _ h => List.mem_cons_of_mem _ (List.mem_append_right _ h)
  have t60 : fX5_isHeard_b60 xM_water xMkind xA = some z → kG X 60 [] [] [oO aM 4 [.int xM_thrown, .ref aMtext, .int xM_textSize, .int xM_place, .int xM_walkers, .int xM_light, .int xM_water, .ref aMnerve, .ref aMkind, .int xM_readWalkers, .int xM_readLight, .int xM_readWater, .ref aMreadNerve, .ref aMreadKind, .ref aMpage, .ref aMtrial, .ref aMbook, .int xM_acts, .ref aMkept, .ref aMisKept, .int xM_told, .ref aMtoldMinute, .ref aMtoldHeard, .long xM_seed, .int xM_orderBest, .int xM_orderMany, .ref aMworth, .int xM_turned], oI aMkind iMkind 5 xMkind, oI aA iA 13 xA] := by
    intro  hf
    unfold fX5_isHeard_b60 at hf
    refine g_iconst (v := (1 : Int32)) hC dX5_isHeard_60 ci_1 ?_
    refine g_goto (tgt := 65) hC dX5_isHeard_61 (by decide) ?_
    exact hQ ((1 : Int32)) _ _ (gd_s hf) (nz_of (Or.inr rfl)) dX5_isHeard_65
  have t32 : ∀  (j2 : Int32) (y0 : Int32), fX5_isHeard_b32 xM_water xMkind xA  j2 y0 = some z → kG X 32 [(0, .ref aM), (1, .ref aA), (2, .int j2)] [.int y0] [oO aM 4 [.int xM_thrown, .ref aMtext, .int xM_textSize, .int xM_place, .int xM_walkers, .int xM_light, .int xM_water, .ref aMnerve, .ref aMkind, .int xM_readWalkers, .int xM_readLight, .int xM_readWater, .ref aMreadNerve, .ref aMreadKind, .ref aMpage, .ref aMtrial, .ref aMbook, .int xM_acts, .ref aMkept, .ref aMisKept, .int xM_told, .ref aMtoldMinute, .ref aMtoldHeard, .long xM_seed, .int xM_orderBest, .int xM_orderMany, .ref aMworth, .int xM_turned], oI aMkind iMkind 5 xMkind, oI aA iA 13 xA] := by
    intro j2 y0 hf
    unfold fX5_isHeard_b32 at hf
    refine g_istore (lv' := [(4, .int y0), (0, .ref aM), (1, .ref aA), (2, .int j2)]) hC dX5_isHeard_32 (by decide) rfl ?_
    refine g_iload hC 0 dX5_isHeard_34 rfl ?_
    refine g_if_ne (tgt := 60) hC dX5_isHeard_36 (by decide) (fun hc => ?_) (fun hc => ?_)
    · replace hf := gd_f hc hf
      refine g_lv (lv' := []) [] rfl ?_
      exact t60   hf
    · replace hf := gd_t hc hf
      refine g_aload_n hC 1 dX5_isHeard_39 rfl rfl ?_
      refine g_get (C := RX5) (T := TX5) (N := 28) (v := .ref aMkind) hC hinX5 0 8 rfl rfl (by decide) (List.mem_of_getElem? (i := 1) rfl) rfl dX5_isHeard_40 ?_
      refine g_iload_n hC 3 dX5_isHeard_43 rfl rfl ?_
      obtain ⟨hg, hf⟩ := gd_ga hf
      refine g_iald hC 1 0 hg rfl rfl dX5_isHeard_44 ?_
      refine g_iconst (v := (2 : Int32)) hC dX5_isHeard_45 ci_2 ?_
      refine g_icmp_eq (tgt := 60) hC dX5_isHeard_46 (by decide) (fun hc => ?_) (fun hc => ?_)
      · replace hf := gd_t hc hf
        refine g_lv (lv' := []) [] rfl ?_
        exact t60   hf
      · replace hf := gd_f hc hf
        refine g_aload_n hC 2 dX5_isHeard_49 rfl rfl ?_
        refine g_bipush (v := (11 : Int32)) hC dX5_isHeard_50 cb_11 ?_
        obtain ⟨hg, hf⟩ := gd_ga hf
        refine g_iald hC 2 1 hg rfl rfl dX5_isHeard_52 ?_
        refine g_aload_n hC 1 dX5_isHeard_53 rfl rfl ?_
        refine g_get (C := RX5) (T := TX5) (N := 28) (v := .int xM_water) hC hinX5 0 6 rfl rfl (by decide) (List.mem_of_getElem? (i := 2) rfl) rfl dX5_isHeard_54 ?_
        refine g_icmp_ne (tgt := 64) hC dX5_isHeard_57 (by decide) (fun hc => ?_) (fun hc => ?_)
        · replace hf := gd_f hc hf
          refine g_iconst (v := (0 : Int32)) hC dX5_isHeard_64 ci_0 ?_
          exact hQ ((0 : Int32)) _ _ (gd_s hf) (nz_of (Or.inl rfl)) dX5_isHeard_65
        · replace hf := gd_t hc hf
          refine g_lv (lv' := []) [] rfl ?_
          exact t60   hf
  have t31 : ∀  (j2 : Int32), fX5_isHeard_b31 xM_water xMkind xA  j2 = some z → kG X 31 [(0, .ref aM), (1, .ref aA), (2, .int j2)] [] [oO aM 4 [.int xM_thrown, .ref aMtext, .int xM_textSize, .int xM_place, .int xM_walkers, .int xM_light, .int xM_water, .ref aMnerve, .ref aMkind, .int xM_readWalkers, .int xM_readLight, .int xM_readWater, .ref aMreadNerve, .ref aMreadKind, .ref aMpage, .ref aMtrial, .ref aMbook, .int xM_acts, .ref aMkept, .ref aMisKept, .int xM_told, .ref aMtoldMinute, .ref aMtoldHeard, .long xM_seed, .int xM_orderBest, .int xM_orderMany, .ref aMworth, .int xM_turned], oI aMkind iMkind 5 xMkind, oI aA iA 13 xA] := by
    intro j2 hf
    unfold fX5_isHeard_b31 at hf
    refine g_iconst (v := (0 : Int32)) hC dX5_isHeard_31 ci_0 ?_
    exact t32  j2 (0 : Int32) hf
  have t27 : ∀  (j2 : Int32), fX5_isHeard_b27 xM_water xMkind xA  j2 = some z → kG X 27 [(0, .ref aM), (1, .ref aA), (2, .int j2)] [] [oO aM 4 [.int xM_thrown, .ref aMtext, .int xM_textSize, .int xM_place, .int xM_walkers, .int xM_light, .int xM_water, .ref aMnerve, .ref aMkind, .int xM_readWalkers, .int xM_readLight, .int xM_readWater, .ref aMreadNerve, .ref aMreadKind, .ref aMpage, .ref aMtrial, .ref aMbook, .int xM_acts, .ref aMkept, .ref aMisKept, .int xM_told, .ref aMtoldMinute, .ref aMtoldHeard, .long xM_seed, .int xM_orderBest, .int xM_orderMany, .ref aMworth, .int xM_turned], oI aMkind iMkind 5 xMkind, oI aA iA 13 xA] := by
    intro j2 hf
    unfold fX5_isHeard_b27 at hf
    refine g_iconst (v := (1 : Int32)) hC dX5_isHeard_27 ci_1 ?_
    refine g_goto (tgt := 32) hC dX5_isHeard_28 (by decide) ?_
    exact t32  j2 (1 : Int32) hf
  unfold fX5_isHeard at hf
  refine g_iload_n hC 3 dX5_isHeard_0 rfl rfl ?_
  refine g_iload_n hC 2 dX5_isHeard_1 rfl rfl ?_
  obtain ⟨z2, hz2, hf⟩ := gd_b hf
  refine g_callSi (wr := [oO aM 4 [.int xM_thrown, .ref aMtext, .int xM_textSize, .int xM_place, .int xM_walkers, .int xM_light, .int xM_water, .ref aMnerve, .ref aMkind, .int xM_readWalkers, .int xM_readLight, .int xM_readWater, .ref aMreadNerve, .ref aMreadKind, .ref aMpage, .ref aMtrial, .ref aMbook, .int xM_acts, .ref aMkept, .ref aMisKept, .int xM_told, .ref aMtoldMinute, .ref aMtoldHeard, .long xM_seed, .int xM_orderBest, .int xM_orderMany, .ref aMworth, .int xM_turned], oI aMkind iMkind 5 xMkind, oI aA iA 13 xA]) (wn := [oO aM 4 [.int xM_thrown, .ref aMtext, .int xM_textSize, .int xM_place, .int xM_walkers, .int xM_light, .int xM_water, .ref aMnerve, .ref aMkind, .int xM_readWalkers, .int xM_readLight, .int xM_readWater, .ref aMreadNerve, .ref aMreadKind, .ref aMpage, .ref aMtrial, .ref aMbook, .int xM_acts, .ref aMkept, .ref aMisKept, .int xM_told, .ref aMtoldMinute, .ref aMtoldHeard, .long xM_seed, .int xM_orderBest, .int xM_orderMany, .ref aMworth, .int xM_turned], oI aMkind iMkind 5 xMkind, oI aA iA 13 xA]) hC [.int j3, .int j2] (cX5_has_m (kl X) (kD X) j3 j2 z2 hz2) gX5_isHeard_X5_has rfl kyX5_has rfl [] [0, 1, 2] [] [0, 1, 2] rfl rfl rfl rfl (by decide) rfl rfl rfl ⟨rfl, rfl⟩ ⟨Nat.le_of_ble_eq_true rfl, Nat.le_of_ble_eq_true rfl⟩ (Nat.le_of_ble_eq_true rfl) rfl dX5_isHeard_2 ?_
  refine g_if_eq (tgt := 31) hC dX5_isHeard_5 (by decide) (fun hc => ?_) (fun hc => ?_)
  · replace hf := gd_t hc hf
    refine g_lv (lv' := [(0, .ref aM), (1, .ref aA), (2, .int j2)]) [0, 1, 2] rfl ?_
    exact t31  j2 hf
  · replace hf := gd_f hc hf
    refine g_aload_n hC 0 dX5_isHeard_8 rfl rfl ?_
    refine g_get (C := RX5) (T := TX5) (N := 28) (v := .ref aMkind) hC hinX5 0 8 rfl rfl (by decide) (List.mem_of_getElem? (i := 1) rfl) rfl dX5_isHeard_9 ?_
    refine g_iload_n hC 2 dX5_isHeard_12 rfl rfl ?_
    obtain ⟨hg, hf⟩ := gd_ga hf
    refine g_iald hC 1 0 hg rfl rfl dX5_isHeard_13 ?_
    refine g_iconst (v := (3 : Int32)) hC dX5_isHeard_14 ci_3 ?_
    refine g_icmp_ne (tgt := 27) hC dX5_isHeard_15 (by decide) (fun hc => ?_) (fun hc => ?_)
    · replace hf := gd_f hc hf
      refine g_lv (lv' := [(0, .ref aM), (1, .ref aA), (2, .int j2)]) [0, 1, 2] rfl ?_
      exact t27  j2 hf
    · replace hf := gd_t hc hf
      refine g_aload_n hC 1 dX5_isHeard_18 rfl rfl ?_
      refine g_bipush (v := (11 : Int32)) hC dX5_isHeard_19 cb_11 ?_
      obtain ⟨hg, hf⟩ := gd_ga hf
      refine g_iald hC 2 1 hg rfl rfl dX5_isHeard_21 ?_
      refine g_iconst (v := (2 : Int32)) hC dX5_isHeard_22 ci_2 ?_
      refine g_irem hC dX5_isHeard_23 (by decide) ?_
      refine g_if_ne (tgt := 31) hC dX5_isHeard_24 (by decide) (fun hc => ?_) (fun hc => ?_)
      · replace hf := gd_f hc hf
        refine g_lv (lv' := [(0, .ref aM), (1, .ref aA), (2, .int j2)]) [0, 1, 2] rfl ?_
        exact t31  j2 hf
      · replace hf := gd_t hc hf
        refine g_lv (lv' := [(0, .ref aM), (1, .ref aA), (2, .int j2)]) [0, 1, 2] rfl ?_
        exact t27  j2 hf
theorem kyX5_goMinute : yX5_goMinute.cls = RX5 ∧ yX5_goMinute.cls ≠ "java/lang/invoke/MethodHandle" ∧ yX5_goMinute.cls ≠ "java/lang/invoke/VarHandle" ∧ (parseMethodDescriptor yX5_goMinute.desc).map (fun d => d.parameters.length) = some 2 := by decide +kernel
set_option maxHeartbeats 4000000 in
set_option maxRecDepth 100000 in
theorem cX5_goMinute_m (l : Launch) (D : va_G) (aM aMtext aMnerve aMkind aMreadNerve aMreadKind aMpage aMtrial aMbook aMkept aMisKept aMtoldMinute aMtoldHeard aMworth aA : Nat) (iMnerve iMkind iA : ClassId) (xM_thrown : Int32) (xM_textSize : Int32) (xM_place : Int32) (xM_walkers : Int32) (xM_light : Int32) (xM_water : Int32) (xM_readWalkers : Int32) (xM_readLight : Int32) (xM_readWater : Int32) (xM_acts : Int32) (xM_told : Int32) (xM_seed : Int64) (xM_orderBest : Int32) (xM_orderMany : Int32) (xM_turned : Int32) (xMnerve : Nat → Int32) (xMkind : Nat → Int32) (xA : Nat → Int32) (j2 : Int32) (z : Int32 × Int32 × (Nat → Int32)) (hf : fX5_goMinute j2 xM_water xM_turned xMnerve xMkind xA = some z) : ∀ sz : Nat, Met l yX5_goMinute wsX5_goMinute ({ frames := 2, cells := 0, slots := 0, locals := 45 } : Room) (kPre D [(iMnerve, .int), (iMkind, .int), (iA, .int)] [oO aM 4 [.int xM_thrown, .ref aMtext, .int xM_textSize, .int xM_place, .int xM_walkers, .int xM_light, .int xM_water, .ref aMnerve, .ref aMkind, .int xM_readWalkers, .int xM_readLight, .int xM_readWater, .ref aMreadNerve, .ref aMreadKind, .ref aMpage, .ref aMtrial, .ref aMbook, .int xM_acts, .ref aMkept, .ref aMisKept, .int xM_told, .ref aMtoldMinute, .ref aMtoldHeard, .long xM_seed, .int xM_orderBest, .int xM_orderMany, .ref aMworth, .int xM_turned], oI aMnerve iMnerve 5 xMnerve, oI aMkind iMkind 5 xMkind, oI aA iA 13 xA] sz [.ref aM, .ref aA, .int j2]) (kQi D [(iMnerve, .int), (iMkind, .int), (iA, .int)] [oO aM 4 [.int xM_thrown, .ref aMtext, .int xM_textSize, .int xM_place, .int xM_walkers, .int xM_light, .int xM_water, .ref aMnerve, .ref aMkind, .int xM_readWalkers, .int xM_readLight, .int xM_readWater, .ref aMreadNerve, .ref aMreadKind, .ref aMpage, .ref aMtrial, .ref aMbook, .int xM_acts, .ref aMkept, .ref aMisKept, .int xM_told, .ref aMtoldMinute, .ref aMtoldHeard, .long xM_seed, .int xM_orderBest, .int xM_orderMany, .ref aMworth, .int xM_turned], oI aMnerve iMnerve 5 xMnerve, oI aMkind iMkind 5 xMkind, oI aA iA 13 xA] sz [oO aM 4 [.int xM_thrown, .ref aMtext, .int xM_textSize, .int xM_place, .int xM_walkers, .int xM_light, .int xM_water, .ref aMnerve, .ref aMkind, .int xM_readWalkers, .int xM_readLight, .int xM_readWater, .ref aMreadNerve, .ref aMreadKind, .ref aMpage, .ref aMtrial, .ref aMbook, .int xM_acts, .ref aMkept, .ref aMisKept, .int xM_told, .ref aMtoldMinute, .ref aMtoldHeard, .long xM_seed, .int xM_orderBest, .int xM_orderMany, .ref aMworth, .int z.2.1], oI aMnerve iMnerve 5 xMnerve, oI aMkind iMkind 5 xMkind, oI aA iA 13 z.2.2] z.1) 0 0 (va_A [oO aM 4 [.int xM_thrown, .ref aMtext, .int xM_textSize, .int xM_place, .int xM_walkers, .int xM_light, .int xM_water, .ref aMnerve, .ref aMkind, .int xM_readWalkers, .int xM_readLight, .int xM_readWater, .ref aMreadNerve, .ref aMreadKind, .ref aMpage, .ref aMtrial, .ref aMbook, .int xM_acts, .ref aMkept, .ref aMisKept, .int xM_told, .ref aMtoldMinute, .ref aMtoldHeard, .long xM_seed, .int xM_orderBest, .int xM_orderMany, .ref aMworth, .int xM_turned], oI aMnerve iMnerve 5 xMnerve, oI aMkind iMkind 5 xMkind, oI aA iA 13 xA] sz) := by
  refine kMet_i (own := RX5) z (fun u => u.1) (fun u => [oO aM 4 [.int xM_thrown, .ref aMtext, .int xM_textSize, .int xM_place, .int xM_walkers, .int xM_light, .int xM_water, .ref aMnerve, .ref aMkind, .int xM_readWalkers, .int xM_readLight, .int xM_readWater, .ref aMreadNerve, .ref aMreadKind, .ref aMpage, .ref aMtrial, .ref aMbook, .int xM_acts, .ref aMkept, .ref aMisKept, .int xM_told, .ref aMtoldMinute, .ref aMtoldHeard, .long xM_seed, .int xM_orderBest, .int xM_orderMany, .ref aMworth, .int u.2.1], oI aMnerve iMnerve 5 xMnerve, oI aMkind iMkind 5 xMkind, oI aA iA 13 u.2.2]) rfl (by decide) rfl ⟨rfl, rfl⟩ (Nat.le_of_ble_eq_true rfl) ?_
  intro X hXl hXD hC hQ
  subst hXl
  subst hXD
  change kG X 0 [(0, .ref aM), (1, .ref aA), (2, .int j2)] [] [oO aM 4 [.int xM_thrown, .ref aMtext, .int xM_textSize, .int xM_place, .int xM_walkers, .int xM_light, .int xM_water, .ref aMnerve, .ref aMkind, .int xM_readWalkers, .int xM_readLight, .int xM_readWater, .ref aMreadNerve, .ref aMreadKind, .ref aMpage, .ref aMtrial, .ref aMbook, .int xM_acts, .ref aMkept, .ref aMisKept, .int xM_told, .ref aMtoldMinute, .ref aMtoldHeard, .long xM_seed, .int xM_orderBest, .int xM_orderMany, .ref aMworth, .int xM_turned], oI aMnerve iMnerve 5 xMnerve, oI aMkind iMkind 5 xMkind, oI aA iA 13 xA]
  have hinX5 : ∀ w ∈ wsX50, w ∈ wsX5_goMinute := fun _ h => List.mem_cons_of_mem _ (List.mem_append_right _ h)
  have t200 : ∀ (k87 : Int32 → Int32 → Int32 → (Nat → Int32) → Option (Int32 × Int32 × (Nat → Int32))) (hk87 : ∀ (j3 : Int32) (j4 : Int32) (xM_turned : Int32) (xA : Nat → Int32), k87 j3 j4 xM_turned xA = some z → kG X 87 [(0, .ref aM), (1, .ref aA), (3, .int j3), (4, .int j4)] [] [oO aM 4 [.int xM_thrown, .ref aMtext, .int xM_textSize, .int xM_place, .int xM_walkers, .int xM_light, .int xM_water, .ref aMnerve, .ref aMkind, .int xM_readWalkers, .int xM_readLight, .int xM_readWater, .ref aMreadNerve, .ref aMreadKind, .ref aMpage, .ref aMtrial, .ref aMbook, .int xM_acts, .ref aMkept, .ref aMisKept, .int xM_told, .ref aMtoldMinute, .ref aMtoldHeard, .long xM_seed, .int xM_orderBest, .int xM_orderMany, .ref aMworth, .int xM_turned], oI aMnerve iMnerve 5 xMnerve, oI aMkind iMkind 5 xMkind, oI aA iA 13 xA]) (j3 : Int32) (j4 : Int32) (xM_turned : Int32) (xA : Nat → Int32), fX5_goMinute_b200 xM_water xMnerve xMkind k87 j3 j4 xM_turned xA = some z → kG X 200 [(0, .ref aM), (1, .ref aA), (3, .int j3), (4, .int j4)] [] [oO aM 4 [.int xM_thrown, .ref aMtext, .int xM_textSize, .int xM_place, .int xM_walkers, .int xM_light, .int xM_water, .ref aMnerve, .ref aMkind, .int xM_readWalkers, .int xM_readLight, .int xM_readWater, .ref aMreadNerve, .ref aMreadKind, .ref aMpage, .ref aMtrial, .ref aMbook, .int xM_acts, .ref aMkept, .ref aMisKept, .int xM_told, .ref aMtoldMinute, .ref aMtoldHeard, .long xM_seed, .int xM_orderBest, .int xM_orderMany, .ref aMworth, .int xM_turned], oI aMnerve iMnerve 5 xMnerve, oI aMkind iMkind 5 xMkind, oI aA iA 13 xA] := by
    intro k87 hk87 j3 j4 xM_turned xA hf
    unfold fX5_goMinute_b200 at hf
    refine g_iinc (v := (j4 + (1 : Int32))) (lv' := [(4, .int (j4 + (1 : Int32))), (0, .ref aM), (1, .ref aA), (3, .int j3)]) hC 3 dX5_goMinute_200 rfl (ii _ ci_1) (by decide) rfl ?_
    refine g_goto (tgt := 87) hC dX5_goMinute_203 (by decide) ?_
    refine g_lv (lv' := [(0, .ref aM), (1, .ref aA), (3, .int j3), (4, .int (j4 + (1 : Int32)))]) [1, 2, 3, 0] rfl ?_
    exact hk87 j3 (j4 + (1 : Int32)) xM_turned xA hf
  have t176 : ∀ (k87 : Int32 → Int32 → Int32 → (Nat → Int32) → Option (Int32 × Int32 × (Nat → Int32))) (hk87 : ∀ (j3 : Int32) (j4 : Int32) (xM_turned : Int32) (xA : Nat → Int32), k87 j3 j4 xM_turned xA = some z → kG X 87 [(0, .ref aM), (1, .ref aA), (3, .int j3), (4, .int j4)] [] [oO aM 4 [.int xM_thrown, .ref aMtext, .int xM_textSize, .int xM_place, .int xM_walkers, .int xM_light, .int xM_water, .ref aMnerve, .ref aMkind, .int xM_readWalkers, .int xM_readLight, .int xM_readWater, .ref aMreadNerve, .ref aMreadKind, .ref aMpage, .ref aMtrial, .ref aMbook, .int xM_acts, .ref aMkept, .ref aMisKept, .int xM_told, .ref aMtoldMinute, .ref aMtoldHeard, .long xM_seed, .int xM_orderBest, .int xM_orderMany, .ref aMworth, .int xM_turned], oI aMnerve iMnerve 5 xMnerve, oI aMkind iMkind 5 xMkind, oI aA iA 13 xA]) (n : Nat) (j3 : Int32) (j4 : Int32) (j6 : Int32) (xM_turned : Int32) (xA : Nat → Int32), lp (fun _ _ _ _ _ => none) (fX5_goMinute_b176_S xM_water xMnerve xMkind k87) n j3 j4 j6 xM_turned xA = some z → kG X 176 [(0, .ref aM), (1, .ref aA), (3, .int j3), (4, .int j4), (6, .int j6)] [] [oO aM 4 [.int xM_thrown, .ref aMtext, .int xM_textSize, .int xM_place, .int xM_walkers, .int xM_light, .int xM_water, .ref aMnerve, .ref aMkind, .int xM_readWalkers, .int xM_readLight, .int xM_readWater, .ref aMreadNerve, .ref aMreadKind, .ref aMpage, .ref aMtrial, .ref aMbook, .int xM_acts, .ref aMkept, .ref aMisKept, .int xM_told, .ref aMtoldMinute, .ref aMtoldHeard, .long xM_seed, .int xM_orderBest, .int xM_orderMany, .ref aMworth, .int xM_turned], oI aMnerve iMnerve 5 xMnerve, oI aMkind iMkind 5 xMkind, oI aA iA 13 xA] := by
    intro k87 hk87 n
    induction n with
    | zero => intro j3 j4 j6 xM_turned xA hf; cases hf
    | succ n hk176 =>
      intro j3 j4 j6 xM_turned xA hf
      rw [lp_s] at hf
      revert hf hk176
      generalize lp (fun _ _ _ _ _ => none) (fX5_goMinute_b176_S xM_water xMnerve xMkind k87) n = k176
      intro hk176 hf
      unfold fX5_goMinute_b176_S at hf
      refine g_iload hC 4 dX5_goMinute_176 rfl ?_
      refine g_aload_n hC 1 dX5_goMinute_178 rfl rfl ?_
      refine g_iconst (v := (5 : Int32)) hC dX5_goMinute_179 ci_5 ?_
      obtain ⟨hg, hf⟩ := gd_ga hf
      refine g_iald hC 3 2 hg rfl rfl dX5_goMinute_180 ?_
      refine g_icmp_ge (tgt := 200) hC dX5_goMinute_181 (by decide) (fun hc => ?_) (fun hc => ?_)
      · replace hf := gd_t hc hf
        refine g_lv (lv' := [(0, .ref aM), (1, .ref aA), (3, .int j3), (4, .int j4)]) [0, 1, 2, 3] rfl ?_
        exact t200 k87 hk87 j3 j4 xM_turned xA hf
      · replace hf := gd_f hc hf
        refine g_aload_n hC 1 dX5_goMinute_184 rfl rfl ?_
        refine g_iload hC 4 dX5_goMinute_185 rfl ?_
        refine g_aload_n hC 1 dX5_goMinute_187 rfl rfl ?_
        refine g_iload hC 4 dX5_goMinute_188 rfl ?_
        refine g_iconst (v := (1 : Int32)) hC dX5_goMinute_190 ci_1 ?_
        refine g_iadd hC dX5_goMinute_191 ?_
        obtain ⟨hg, hf⟩ := gd_ga hf
        refine g_iald hC 3 2 hg rfl rfl dX5_goMinute_192 ?_
        obtain ⟨hg, hf⟩ := gd_ga hf
        refine g_iast (ws' := [oO aM 4 [.int xM_thrown, .ref aMtext, .int xM_textSize, .int xM_place, .int xM_walkers, .int xM_light, .int xM_water, .ref aMnerve, .ref aMkind, .int xM_readWalkers, .int xM_readLight, .int xM_readWater, .ref aMreadNerve, .ref aMreadKind, .ref aMpage, .ref aMtrial, .ref aMbook, .int xM_acts, .ref aMkept, .ref aMisKept, .int xM_told, .ref aMtoldMinute, .ref aMtoldHeard, .long xM_seed, .int xM_orderBest, .int xM_orderMany, .ref aMworth, .int xM_turned], oI aMnerve iMnerve 5 xMnerve, oI aMkind iMkind 5 xMkind, oI aA iA 13 (upd xA j6.toNatClampNeg (xA (j6 + (1 : Int32)).toNatClampNeg))]) hC 3 2 hg rfl rfl dX5_goMinute_193 rfl ?_
        refine g_iinc (v := (j6 + (1 : Int32))) (lv' := [(6, .int (j6 + (1 : Int32))), (0, .ref aM), (1, .ref aA), (3, .int j3), (4, .int j4)]) hC 4 dX5_goMinute_194 rfl (ii _ ci_1) (by decide) rfl ?_
        refine g_goto (tgt := 176) hC dX5_goMinute_197 (by decide) ?_
        refine g_lv (lv' := [(0, .ref aM), (1, .ref aA), (3, .int j3), (4, .int j4), (6, .int (j6 + (1 : Int32)))]) [1, 2, 3, 4, 0] rfl ?_
        exact hk176 j3 j4 (j6 + (1 : Int32)) xM_turned (upd xA j6.toNatClampNeg (xA (j6 + (1 : Int32)).toNatClampNeg)) hf
  have t87 : ∀  (n : Nat) (j3 : Int32) (j4 : Int32) (xM_turned : Int32) (xA : Nat → Int32), lp (fun _ _ _ _ => none) (fX5_goMinute_b87_S xM_water xMnerve xMkind ) n j3 j4 xM_turned xA = some z → kG X 87 [(0, .ref aM), (1, .ref aA), (3, .int j3), (4, .int j4)] [] [oO aM 4 [.int xM_thrown, .ref aMtext, .int xM_textSize, .int xM_place, .int xM_walkers, .int xM_light, .int xM_water, .ref aMnerve, .ref aMkind, .int xM_readWalkers, .int xM_readLight, .int xM_readWater, .ref aMreadNerve, .ref aMreadKind, .ref aMpage, .ref aMtrial, .ref aMbook, .int xM_acts, .ref aMkept, .ref aMisKept, .int xM_told, .ref aMtoldMinute, .ref aMtoldHeard, .long xM_seed, .int xM_orderBest, .int xM_orderMany, .ref aMworth, .int xM_turned], oI aMnerve iMnerve 5 xMnerve, oI aMkind iMkind 5 xMkind, oI aA iA 13 xA] := by
    intro  n
    induction n with
    | zero => intro j3 j4 xM_turned xA hf; cases hf
    | succ n hk87 =>
      intro j3 j4 xM_turned xA hf
      rw [lp_s] at hf
      revert hf hk87
      generalize lp (fun _ _ _ _ => none) (fX5_goMinute_b87_S xM_water xMnerve xMkind ) n = k87
      intro hk87 hf
      unfold fX5_goMinute_b87_S at hf
      refine g_iload hC 3 dX5_goMinute_87 rfl ?_
      refine g_iconst (v := (1 : Int32)) hC dX5_goMinute_89 ci_1 ?_
      refine g_iadd hC dX5_goMinute_90 ?_
      refine g_aload_n hC 1 dX5_goMinute_91 rfl rfl ?_
      refine g_iconst (v := (5 : Int32)) hC dX5_goMinute_92 ci_5 ?_
      obtain ⟨hg, hf⟩ := gd_ga hf
      refine g_iald hC 3 2 hg rfl rfl dX5_goMinute_93 ?_
      refine g_icmp_ge (tgt := 206) hC dX5_goMinute_94 (by decide) (fun hc => ?_) (fun hc => ?_)
      · replace hf := gd_t hc hf
        refine g_aload_n hC 1 dX5_goMinute_206 rfl rfl ?_
        refine g_bipush (v := (12 : Int32)) hC dX5_goMinute_207 cb_12 ?_
        refine g_dup2 hC dX5_goMinute_209 rfl rfl ?_
        obtain ⟨hg, hf⟩ := gd_ga hf
        refine g_iald hC 3 2 hg rfl rfl dX5_goMinute_210 ?_
        refine g_iload_n hC 2 dX5_goMinute_211 rfl rfl ?_
        refine g_ior hC dX5_goMinute_212 ?_
        obtain ⟨hg, hf⟩ := gd_ga hf
        refine g_iast (ws' := [oO aM 4 [.int xM_thrown, .ref aMtext, .int xM_textSize, .int xM_place, .int xM_walkers, .int xM_light, .int xM_water, .ref aMnerve, .ref aMkind, .int xM_readWalkers, .int xM_readLight, .int xM_readWater, .ref aMreadNerve, .ref aMreadKind, .ref aMpage, .ref aMtrial, .ref aMbook, .int xM_acts, .ref aMkept, .ref aMisKept, .int xM_told, .ref aMtoldMinute, .ref aMtoldHeard, .long xM_seed, .int xM_orderBest, .int xM_orderMany, .ref aMworth, .int xM_turned], oI aMnerve iMnerve 5 xMnerve, oI aMkind iMkind 5 xMkind, oI aA iA 13 (upd xA (12 : Int32).toNatClampNeg ((xA (12 : Int32).toNatClampNeg) ||| j3))]) hC 3 2 hg rfl rfl dX5_goMinute_213 rfl ?_
        refine g_aload_n hC 1 dX5_goMinute_214 rfl rfl ?_
        refine g_bipush (v := (11 : Int32)) hC dX5_goMinute_215 cb_11 ?_
        refine g_dup2 hC dX5_goMinute_217 rfl rfl ?_
        obtain ⟨hg, hf⟩ := gd_ga hf
        refine g_iald hC 3 2 hg rfl rfl dX5_goMinute_218 ?_
        refine g_iconst (v := (1 : Int32)) hC dX5_goMinute_219 ci_1 ?_
        refine g_iadd hC dX5_goMinute_220 ?_
        obtain ⟨hg, hf⟩ := gd_ga hf
        refine g_iast (ws' := [oO aM 4 [.int xM_thrown, .ref aMtext, .int xM_textSize, .int xM_place, .int xM_walkers, .int xM_light, .int xM_water, .ref aMnerve, .ref aMkind, .int xM_readWalkers, .int xM_readLight, .int xM_readWater, .ref aMreadNerve, .ref aMreadKind, .ref aMpage, .ref aMtrial, .ref aMbook, .int xM_acts, .ref aMkept, .ref aMisKept, .int xM_told, .ref aMtoldMinute, .ref aMtoldHeard, .long xM_seed, .int xM_orderBest, .int xM_orderMany, .ref aMworth, .int xM_turned], oI aMnerve iMnerve 5 xMnerve, oI aMkind iMkind 5 xMkind, oI aA iA 13 (upd (upd xA (12 : Int32).toNatClampNeg ((xA (12 : Int32).toNatClampNeg) ||| j3)) (11 : Int32).toNatClampNeg (((upd xA (12 : Int32).toNatClampNeg ((xA (12 : Int32).toNatClampNeg) ||| j3)) (11 : Int32).toNatClampNeg) + (1 : Int32)))]) hC 3 2 hg rfl rfl dX5_goMinute_221 rfl ?_
        refine g_iload_n hC 2 dX5_goMinute_222 rfl rfl ?_
        exact hQ (j3, xM_turned, (upd (upd xA (12 : Int32).toNatClampNeg ((xA (12 : Int32).toNatClampNeg) ||| j3)) (11 : Int32).toNatClampNeg (((upd xA (12 : Int32).toNatClampNeg ((xA (12 : Int32).toNatClampNeg) ||| j3)) (11 : Int32).toNatClampNeg) + (1 : Int32)))) _ _ (gd_s hf) dX5_goMinute_223
      · replace hf := gd_f hc hf
        refine g_aload_n hC 1 dX5_goMinute_97 rfl rfl ?_
        refine g_iload hC 3 dX5_goMinute_98 rfl ?_
        obtain ⟨hg, hf⟩ := gd_ga hf
        refine g_iald hC 3 2 hg rfl rfl dX5_goMinute_100 ?_
        refine g_istore (lv' := [(5, .int (xA j4.toNatClampNeg)), (0, .ref aM), (1, .ref aA), (3, .int j3), (4, .int j4)]) hC dX5_goMinute_101 (by decide) rfl ?_
        refine g_aload_n hC 1 dX5_goMinute_103 rfl rfl ?_
        refine g_get (C := RX5) (T := TX5) (N := 28) (v := .ref aMkind) hC hinX5 0 8 rfl rfl (by decide) (List.mem_of_getElem? (i := 1) rfl) rfl dX5_goMinute_104 ?_
        refine g_iload hC 0 dX5_goMinute_107 rfl ?_
        obtain ⟨hg, hf⟩ := gd_ga hf
        refine g_iald hC 2 1 hg rfl rfl dX5_goMinute_109 ?_
        refine g_iconst (v := (1 : Int32)) hC dX5_goMinute_110 ci_1 ?_
        refine g_icmp_eq (tgt := 200) hC dX5_goMinute_111 (by decide) (fun hc => ?_) (fun hc => ?_)
        · replace hf := gd_t hc hf
          refine g_lv (lv' := [(0, .ref aM), (1, .ref aA), (3, .int j3), (4, .int j4)]) [1, 2, 3, 4] rfl ?_
          exact t200 k87 hk87 j3 j4 xM_turned xA hf
        · replace hf := gd_f hc hf
          refine g_aload_n hC 2 dX5_goMinute_114 rfl rfl ?_
          refine g_bipush (v := (6 : Int32)) hC dX5_goMinute_115 cb_6 ?_
          refine g_iload hC 0 dX5_goMinute_117 rfl ?_
          refine g_iadd hC dX5_goMinute_119 ?_
          obtain ⟨hg, hf⟩ := gd_ga hf
          refine g_iald hC 3 2 hg rfl rfl dX5_goMinute_120 ?_
          refine g_aload_n hC 1 dX5_goMinute_121 rfl rfl ?_
          refine g_get (C := RX5) (T := TX5) (N := 28) (v := .ref aMnerve) hC hinX5 0 7 rfl rfl (by decide) (List.mem_of_getElem? (i := 3) rfl) rfl dX5_goMinute_122 ?_
          refine g_iload hC 0 dX5_goMinute_125 rfl ?_
          obtain ⟨hg, hf⟩ := gd_ga hf
          refine g_iald hC 1 0 hg rfl rfl dX5_goMinute_127 ?_
          refine g_icmp_le (tgt := 200) hC dX5_goMinute_128 (by decide) (fun hc => ?_) (fun hc => ?_)
          · replace hf := gd_t hc hf
            refine g_lv (lv' := [(0, .ref aM), (1, .ref aA), (3, .int j3), (4, .int j4)]) [1, 2, 3, 4] rfl ?_
            exact t200 k87 hk87 j3 j4 xM_turned xA hf
          · replace hf := gd_f hc hf
            refine g_aload_n hC 1 dX5_goMinute_131 rfl rfl ?_
            refine g_dup hC dX5_goMinute_132 rfl ?_
            refine g_get (C := RX5) (T := TX5) (N := 28) (v := .int xM_turned) hC hinX5 0 27 rfl rfl (by decide) (List.mem_of_getElem? (i := 2) rfl) rfl dX5_goMinute_133 ?_
            refine g_iconst (v := (1 : Int32)) hC dX5_goMinute_136 ci_1 ?_
            refine g_iload hC 0 dX5_goMinute_137 rfl ?_
            refine g_ishl hC dX5_goMinute_139 ?_
            refine g_ior hC dX5_goMinute_140 ?_
            refine g_put (C := RX5) (T := TX5) (N := 28) (ty := .int) (ws' := [oO aM 4 [.int xM_thrown, .ref aMtext, .int xM_textSize, .int xM_place, .int xM_walkers, .int xM_light, .int xM_water, .ref aMnerve, .ref aMkind, .int xM_readWalkers, .int xM_readLight, .int xM_readWater, .ref aMreadNerve, .ref aMreadKind, .ref aMpage, .ref aMtrial, .ref aMbook, .int xM_acts, .ref aMkept, .ref aMisKept, .int xM_told, .ref aMtoldMinute, .ref aMtoldHeard, .long xM_seed, .int xM_orderBest, .int xM_orderMany, .ref aMworth, .int (xM_turned ||| ((1 : Int32) <<< ((xA j4.toNatClampNeg) &&& 31)))], oI aMnerve iMnerve 5 xMnerve, oI aMkind iMkind 5 xMkind, oI aA iA 13 xA]) hC tyX5_ok nmX5 hinX5 0 27 rfl rfl (by decide) (List.mem_of_getElem? (i := 2) rfl) rfl rfl rfl rfl (Nat.le_of_ble_eq_true rfl) dX5_goMinute_141 rfl ?_
            refine g_aload_n hC 2 dX5_goMinute_144 rfl rfl ?_
            refine g_bipush (v := (6 : Int32)) hC dX5_goMinute_145 cb_6 ?_
            refine g_iload hC 0 dX5_goMinute_147 rfl ?_
            refine g_iadd hC dX5_goMinute_149 ?_
            refine g_iconst (v := (0 : Int32)) hC dX5_goMinute_150 ci_0 ?_
            obtain ⟨hg, hf⟩ := gd_ga hf
            refine g_iast (ws' := [oO aM 4 [.int xM_thrown, .ref aMtext, .int xM_textSize, .int xM_place, .int xM_walkers, .int xM_light, .int xM_water, .ref aMnerve, .ref aMkind, .int xM_readWalkers, .int xM_readLight, .int xM_readWater, .ref aMreadNerve, .ref aMreadKind, .ref aMpage, .ref aMtrial, .ref aMbook, .int xM_acts, .ref aMkept, .ref aMisKept, .int xM_told, .ref aMtoldMinute, .ref aMtoldHeard, .long xM_seed, .int xM_orderBest, .int xM_orderMany, .ref aMworth, .int (xM_turned ||| ((1 : Int32) <<< ((xA j4.toNatClampNeg) &&& 31)))], oI aMnerve iMnerve 5 xMnerve, oI aMkind iMkind 5 xMkind, oI aA iA 13 (upd xA ((6 : Int32) + (xA j4.toNatClampNeg)).toNatClampNeg (0 : Int32))]) hC 3 2 hg rfl rfl dX5_goMinute_151 rfl ?_
            refine g_iload_n hC 3 dX5_goMinute_152 rfl rfl ?_
            refine g_iconst (v := (1 : Int32)) hC dX5_goMinute_153 ci_1 ?_
            refine g_aload_n hC 2 dX5_goMinute_154 rfl rfl ?_
            refine g_iload hC 4 dX5_goMinute_155 rfl ?_
            refine g_iconst (v := (1 : Int32)) hC dX5_goMinute_157 ci_1 ?_
            refine g_iadd hC dX5_goMinute_158 ?_
            obtain ⟨hg, hf⟩ := gd_ga hf
            refine g_iald hC 3 2 hg rfl rfl dX5_goMinute_159 ?_
            refine g_ishl hC dX5_goMinute_160 ?_
            refine g_ior hC dX5_goMinute_161 ?_
            refine g_istore_n (lv' := [(3, .int (j3 ||| ((1 : Int32) <<< (((upd xA ((6 : Int32) + (xA j4.toNatClampNeg)).toNatClampNeg (0 : Int32)) (j4 + (1 : Int32)).toNatClampNeg) &&& 31)))), (5, .int (xA j4.toNatClampNeg)), (0, .ref aM), (1, .ref aA), (4, .int j4)]) hC dX5_goMinute_162 rfl (by decide) rfl ?_
            refine g_aload_n hC 3 dX5_goMinute_163 rfl rfl ?_
            refine g_iconst (v := (5 : Int32)) hC dX5_goMinute_164 ci_5 ?_
            refine g_dup2 hC dX5_goMinute_165 rfl rfl ?_
            obtain ⟨hg, hf⟩ := gd_ga hf
            refine g_iald hC 3 2 hg rfl rfl dX5_goMinute_166 ?_
            refine g_iconst (v := (1 : Int32)) hC dX5_goMinute_167 ci_1 ?_
            refine g_isub hC dX5_goMinute_168 ?_
            obtain ⟨hg, hf⟩ := gd_ga hf
            refine g_iast (ws' := [oO aM 4 [.int xM_thrown, .ref aMtext, .int xM_textSize, .int xM_place, .int xM_walkers, .int xM_light, .int xM_water, .ref aMnerve, .ref aMkind, .int xM_readWalkers, .int xM_readLight, .int xM_readWater, .ref aMreadNerve, .ref aMreadKind, .ref aMpage, .ref aMtrial, .ref aMbook, .int xM_acts, .ref aMkept, .ref aMisKept, .int xM_told, .ref aMtoldMinute, .ref aMtoldHeard, .long xM_seed, .int xM_orderBest, .int xM_orderMany, .ref aMworth, .int (xM_turned ||| ((1 : Int32) <<< ((xA j4.toNatClampNeg) &&& 31)))], oI aMnerve iMnerve 5 xMnerve, oI aMkind iMkind 5 xMkind, oI aA iA 13 (upd (upd xA ((6 : Int32) + (xA j4.toNatClampNeg)).toNatClampNeg (0 : Int32)) (5 : Int32).toNatClampNeg (((upd xA ((6 : Int32) + (xA j4.toNatClampNeg)).toNatClampNeg (0 : Int32)) (5 : Int32).toNatClampNeg) - (1 : Int32)))]) hC 3 2 hg rfl rfl dX5_goMinute_169 rfl ?_
            refine g_iload hC 4 dX5_goMinute_170 rfl ?_
            refine g_iconst (v := (1 : Int32)) hC dX5_goMinute_172 ci_1 ?_
            refine g_iadd hC dX5_goMinute_173 ?_
            refine g_istore (lv' := [(6, .int (j4 + (1 : Int32))), (3, .int (j3 ||| ((1 : Int32) <<< (((upd xA ((6 : Int32) + (xA j4.toNatClampNeg)).toNatClampNeg (0 : Int32)) (j4 + (1 : Int32)).toNatClampNeg) &&& 31)))), (5, .int (xA j4.toNatClampNeg)), (0, .ref aM), (1, .ref aA), (4, .int j4)]) hC dX5_goMinute_174 (by decide) rfl ?_
            refine g_lv (lv' := [(0, .ref aM), (1, .ref aA), (3, .int (j3 ||| ((1 : Int32) <<< (((upd xA ((6 : Int32) + (xA j4.toNatClampNeg)).toNatClampNeg (0 : Int32)) (j4 + (1 : Int32)).toNatClampNeg) &&& 31)))), (4, .int j4), (6, .int (j4 + (1 : Int32)))]) [3, 4, 1, 5, 0] rfl ?_
            exact t176 k87 hk87 fu (j3 ||| ((1 : Int32) <<< (((upd xA ((6 : Int32) + (xA j4.toNatClampNeg)).toNatClampNeg (0 : Int32)) (j4 + (1 : Int32)).toNatClampNeg) &&& 31))) j4 (j4 + (1 : Int32)) (xM_turned ||| ((1 : Int32) <<< ((xA j4.toNatClampNeg) &&& 31))) (upd (upd xA ((6 : Int32) + (xA j4.toNatClampNeg)).toNatClampNeg (0 : Int32)) (5 : Int32).toNatClampNeg (((upd xA ((6 : Int32) + (xA j4.toNatClampNeg)).toNatClampNeg (0 : Int32)) (5 : Int32).toNatClampNeg) - (1 : Int32))) hf
  have t70 : ∀ (k2 : Int32 → Int32 → Int32 → (Nat → Int32) → Option (Int32 × Int32 × (Nat → Int32))) (hk2 : ∀ (j2 : Int32) (j3 : Int32) (xM_turned : Int32) (xA : Nat → Int32), k2 j2 j3 xM_turned xA = some z → kG X 2 [(0, .ref aM), (1, .ref aA), (2, .int j2), (3, .int j3)] [] [oO aM 4 [.int xM_thrown, .ref aMtext, .int xM_textSize, .int xM_place, .int xM_walkers, .int xM_light, .int xM_water, .ref aMnerve, .ref aMkind, .int xM_readWalkers, .int xM_readLight, .int xM_readWater, .ref aMreadNerve, .ref aMreadKind, .ref aMpage, .ref aMtrial, .ref aMbook, .int xM_acts, .ref aMkept, .ref aMisKept, .int xM_told, .ref aMtoldMinute, .ref aMtoldHeard, .long xM_seed, .int xM_orderBest, .int xM_orderMany, .ref aMworth, .int xM_turned], oI aMnerve iMnerve 5 xMnerve, oI aMkind iMkind 5 xMkind, oI aA iA 13 xA]) (j2 : Int32) (j3 : Int32) (y0 : Int32) (y1 : Int32) (xM_turned : Int32) (xA : Nat → Int32), fX5_goMinute_b70 xM_water xMnerve xMkind k2 j2 j3 y0 y1 xM_turned xA = some z → kG X 70 [(0, .ref aM), (1, .ref aA), (2, .int j2), (3, .int j3)] [.int y0, .int y1, .ref aA] [oO aM 4 [.int xM_thrown, .ref aMtext, .int xM_textSize, .int xM_place, .int xM_walkers, .int xM_light, .int xM_water, .ref aMnerve, .ref aMkind, .int xM_readWalkers, .int xM_readLight, .int xM_readWater, .ref aMreadNerve, .ref aMreadKind, .ref aMpage, .ref aMtrial, .ref aMbook, .int xM_acts, .ref aMkept, .ref aMisKept, .int xM_told, .ref aMtoldMinute, .ref aMtoldHeard, .long xM_seed, .int xM_orderBest, .int xM_orderMany, .ref aMworth, .int xM_turned], oI aMnerve iMnerve 5 xMnerve, oI aMkind iMkind 5 xMkind, oI aA iA 13 xA] := by
    intro k2 hk2 j2 j3 y0 y1 xM_turned xA hf
    unfold fX5_goMinute_b70 at hf
    obtain ⟨hg, hf⟩ := gd_ga hf
    refine g_iast (ws' := [oO aM 4 [.int xM_thrown, .ref aMtext, .int xM_textSize, .int xM_place, .int xM_walkers, .int xM_light, .int xM_water, .ref aMnerve, .ref aMkind, .int xM_readWalkers, .int xM_readLight, .int xM_readWater, .ref aMreadNerve, .ref aMreadKind, .ref aMpage, .ref aMtrial, .ref aMbook, .int xM_acts, .ref aMkept, .ref aMisKept, .int xM_told, .ref aMtoldMinute, .ref aMtoldHeard, .long xM_seed, .int xM_orderBest, .int xM_orderMany, .ref aMworth, .int xM_turned], oI aMnerve iMnerve 5 xMnerve, oI aMkind iMkind 5 xMkind, oI aA iA 13 (upd xA y1.toNatClampNeg y0)]) hC 3 2 hg rfl rfl dX5_goMinute_70 rfl ?_
    refine g_iinc (v := (j3 + (1 : Int32))) (lv' := [(3, .int (j3 + (1 : Int32))), (0, .ref aM), (1, .ref aA), (2, .int j2)]) hC 3 dX5_goMinute_71 rfl (ii _ ci_1) (by decide) rfl ?_
    refine g_goto (tgt := 2) hC dX5_goMinute_74 (by decide) ?_
    refine g_lv (lv' := [(0, .ref aM), (1, .ref aA), (2, .int j2), (3, .int (j3 + (1 : Int32)))]) [1, 2, 3, 0] rfl ?_
    exact hk2 j2 (j3 + (1 : Int32)) xM_turned (upd xA y1.toNatClampNeg y0) hf
  have t42 : ∀ (k2 : Int32 → Int32 → Int32 → (Nat → Int32) → Option (Int32 × Int32 × (Nat → Int32))) (hk2 : ∀ (j2 : Int32) (j3 : Int32) (xM_turned : Int32) (xA : Nat → Int32), k2 j2 j3 xM_turned xA = some z → kG X 2 [(0, .ref aM), (1, .ref aA), (2, .int j2), (3, .int j3)] [] [oO aM 4 [.int xM_thrown, .ref aMtext, .int xM_textSize, .int xM_place, .int xM_walkers, .int xM_light, .int xM_water, .ref aMnerve, .ref aMkind, .int xM_readWalkers, .int xM_readLight, .int xM_readWater, .ref aMreadNerve, .ref aMreadKind, .ref aMpage, .ref aMtrial, .ref aMbook, .int xM_acts, .ref aMkept, .ref aMisKept, .int xM_told, .ref aMtoldMinute, .ref aMtoldHeard, .long xM_seed, .int xM_orderBest, .int xM_orderMany, .ref aMworth, .int xM_turned], oI aMnerve iMnerve 5 xMnerve, oI aMkind iMkind 5 xMkind, oI aA iA 13 xA]) (j2 : Int32) (j3 : Int32) (y0 : Int32) (xM_turned : Int32) (xA : Nat → Int32), fX5_goMinute_b42 xM_water xMnerve xMkind k2 j2 j3 y0 xM_turned xA = some z → kG X 42 [(0, .ref aM), (1, .ref aA), (2, .int j2), (3, .int j3)] [.int y0] [oO aM 4 [.int xM_thrown, .ref aMtext, .int xM_textSize, .int xM_place, .int xM_walkers, .int xM_light, .int xM_water, .ref aMnerve, .ref aMkind, .int xM_readWalkers, .int xM_readLight, .int xM_readWater, .ref aMreadNerve, .ref aMreadKind, .ref aMpage, .ref aMtrial, .ref aMbook, .int xM_acts, .ref aMkept, .ref aMisKept, .int xM_told, .ref aMtoldMinute, .ref aMtoldHeard, .long xM_seed, .int xM_orderBest, .int xM_orderMany, .ref aMworth, .int xM_turned], oI aMnerve iMnerve 5 xMnerve, oI aMkind iMkind 5 xMkind, oI aA iA 13 xA] := by
    intro k2 hk2 j2 j3 y0 xM_turned xA hf
    unfold fX5_goMinute_b42 at hf
    refine g_istore (lv' := [(4, .int y0), (0, .ref aM), (1, .ref aA), (2, .int j2), (3, .int j3)]) hC dX5_goMinute_42 (by decide) rfl ?_
    refine g_aload_n hC 2 dX5_goMinute_44 rfl rfl ?_
    refine g_bipush (v := (6 : Int32)) hC dX5_goMinute_45 cb_6 ?_
    refine g_aload_n hC 2 dX5_goMinute_47 rfl rfl ?_
    refine g_iload_n hC 4 dX5_goMinute_48 rfl rfl ?_
    obtain ⟨hg, hf⟩ := gd_ga hf
    refine g_iald hC 3 2 hg rfl rfl dX5_goMinute_49 ?_
    refine g_iadd hC dX5_goMinute_50 ?_
    refine g_iload hC 0 dX5_goMinute_51 rfl ?_
    refine g_if_eq (tgt := 60) hC dX5_goMinute_53 (by decide) (fun hc => ?_) (fun hc => ?_)
    · replace hf := gd_t hc hf
      refine g_aload_n hC 2 dX5_goMinute_60 rfl rfl ?_
      refine g_bipush (v := (6 : Int32)) hC dX5_goMinute_61 cb_6 ?_
      refine g_aload_n hC 2 dX5_goMinute_63 rfl rfl ?_
      refine g_iload_n hC 4 dX5_goMinute_64 rfl rfl ?_
      obtain ⟨hg, hf⟩ := gd_ga hf
      refine g_iald hC 3 2 hg rfl rfl dX5_goMinute_65 ?_
      refine g_iadd hC dX5_goMinute_66 ?_
      obtain ⟨hg, hf⟩ := gd_ga hf
      refine g_iald hC 3 2 hg rfl rfl dX5_goMinute_67 ?_
      refine g_iconst (v := (1 : Int32)) hC dX5_goMinute_68 ci_1 ?_
      refine g_iadd hC dX5_goMinute_69 ?_
      refine g_lv (lv' := [(0, .ref aM), (1, .ref aA), (2, .int j2), (3, .int j3)]) [1, 2, 3, 4] rfl ?_
      exact t70 k2 hk2 j2 j3 ((xA ((6 : Int32) + (xA j3.toNatClampNeg)).toNatClampNeg) + (1 : Int32)) ((6 : Int32) + (xA j3.toNatClampNeg)) xM_turned xA hf
    · replace hf := gd_f hc hf
      refine g_iconst (v := (0 : Int32)) hC dX5_goMinute_56 ci_0 ?_
      refine g_goto (tgt := 70) hC dX5_goMinute_57 (by decide) ?_
      refine g_lv (lv' := [(0, .ref aM), (1, .ref aA), (2, .int j2), (3, .int j3)]) [1, 2, 3, 4] rfl ?_
      exact t70 k2 hk2 j2 j3 (0 : Int32) ((6 : Int32) + (xA j3.toNatClampNeg)) xM_turned xA hf
  have t41 : ∀ (k2 : Int32 → Int32 → Int32 → (Nat → Int32) → Option (Int32 × Int32 × (Nat → Int32))) (hk2 : ∀ (j2 : Int32) (j3 : Int32) (xM_turned : Int32) (xA : Nat → Int32), k2 j2 j3 xM_turned xA = some z → kG X 2 [(0, .ref aM), (1, .ref aA), (2, .int j2), (3, .int j3)] [] [oO aM 4 [.int xM_thrown, .ref aMtext, .int xM_textSize, .int xM_place, .int xM_walkers, .int xM_light, .int xM_water, .ref aMnerve, .ref aMkind, .int xM_readWalkers, .int xM_readLight, .int xM_readWater, .ref aMreadNerve, .ref aMreadKind, .ref aMpage, .ref aMtrial, .ref aMbook, .int xM_acts, .ref aMkept, .ref aMisKept, .int xM_told, .ref aMtoldMinute, .ref aMtoldHeard, .long xM_seed, .int xM_orderBest, .int xM_orderMany, .ref aMworth, .int xM_turned], oI aMnerve iMnerve 5 xMnerve, oI aMkind iMkind 5 xMkind, oI aA iA 13 xA]) (j2 : Int32) (j3 : Int32) (xM_turned : Int32) (xA : Nat → Int32), fX5_goMinute_b41 xM_water xMnerve xMkind k2 j2 j3 xM_turned xA = some z → kG X 41 [(0, .ref aM), (1, .ref aA), (2, .int j2), (3, .int j3)] [] [oO aM 4 [.int xM_thrown, .ref aMtext, .int xM_textSize, .int xM_place, .int xM_walkers, .int xM_light, .int xM_water, .ref aMnerve, .ref aMkind, .int xM_readWalkers, .int xM_readLight, .int xM_readWater, .ref aMreadNerve, .ref aMreadKind, .ref aMpage, .ref aMtrial, .ref aMbook, .int xM_acts, .ref aMkept, .ref aMisKept, .int xM_told, .ref aMtoldMinute, .ref aMtoldHeard, .long xM_seed, .int xM_orderBest, .int xM_orderMany, .ref aMworth, .int xM_turned], oI aMnerve iMnerve 5 xMnerve, oI aMkind iMkind 5 xMkind, oI aA iA 13 xA] := by
    intro k2 hk2 j2 j3 xM_turned xA hf
    unfold fX5_goMinute_b41 at hf
    refine g_iconst (v := (0 : Int32)) hC dX5_goMinute_41 ci_0 ?_
    exact t42 k2 hk2 j2 j3 (0 : Int32) xM_turned xA hf
  have t2 : ∀  (n : Nat) (j2 : Int32) (j3 : Int32) (xM_turned : Int32) (xA : Nat → Int32), lp (fun _ _ _ _ => none) (fX5_goMinute_b2_S xM_water xMnerve xMkind ) n j2 j3 xM_turned xA = some z → kG X 2 [(0, .ref aM), (1, .ref aA), (2, .int j2), (3, .int j3)] [] [oO aM 4 [.int xM_thrown, .ref aMtext, .int xM_textSize, .int xM_place, .int xM_walkers, .int xM_light, .int xM_water, .ref aMnerve, .ref aMkind, .int xM_readWalkers, .int xM_readLight, .int xM_readWater, .ref aMreadNerve, .ref aMreadKind, .ref aMpage, .ref aMtrial, .ref aMbook, .int xM_acts, .ref aMkept, .ref aMisKept, .int xM_told, .ref aMtoldMinute, .ref aMtoldHeard, .long xM_seed, .int xM_orderBest, .int xM_orderMany, .ref aMworth, .int xM_turned], oI aMnerve iMnerve 5 xMnerve, oI aMkind iMkind 5 xMkind, oI aA iA 13 xA] := by
    intro  n
    induction n with
    | zero => intro j2 j3 xM_turned xA hf; cases hf
    | succ n hk2 =>
      intro j2 j3 xM_turned xA hf
      rw [lp_s] at hf
      revert hf hk2
      generalize lp (fun _ _ _ _ => none) (fX5_goMinute_b2_S xM_water xMnerve xMkind ) n = k2
      intro hk2 hf
      unfold fX5_goMinute_b2_S at hf
      refine g_iload_n hC 3 dX5_goMinute_2 rfl rfl ?_
      refine g_iconst (v := (1 : Int32)) hC dX5_goMinute_3 ci_1 ?_
      refine g_iadd hC dX5_goMinute_4 ?_
      refine g_aload_n hC 1 dX5_goMinute_5 rfl rfl ?_
      refine g_iconst (v := (5 : Int32)) hC dX5_goMinute_6 ci_5 ?_
      obtain ⟨hg, hf⟩ := gd_ga hf
      refine g_iald hC 3 2 hg rfl rfl dX5_goMinute_7 ?_
      refine g_icmp_ge (tgt := 77) hC dX5_goMinute_8 (by decide) (fun hc => ?_) (fun hc => ?_)
      · replace hf := gd_t hc hf
        refine g_aload_n hC 0 dX5_goMinute_77 rfl rfl ?_
        refine g_iconst (v := (0 : Int32)) hC dX5_goMinute_78 ci_0 ?_
        refine g_put (C := RX5) (T := TX5) (N := 28) (ty := .int) (ws' := [oO aM 4 [.int xM_thrown, .ref aMtext, .int xM_textSize, .int xM_place, .int xM_walkers, .int xM_light, .int xM_water, .ref aMnerve, .ref aMkind, .int xM_readWalkers, .int xM_readLight, .int xM_readWater, .ref aMreadNerve, .ref aMreadKind, .ref aMpage, .ref aMtrial, .ref aMbook, .int xM_acts, .ref aMkept, .ref aMisKept, .int xM_told, .ref aMtoldMinute, .ref aMtoldHeard, .long xM_seed, .int xM_orderBest, .int xM_orderMany, .ref aMworth, .int (0 : Int32)], oI aMnerve iMnerve 5 xMnerve, oI aMkind iMkind 5 xMkind, oI aA iA 13 xA]) hC tyX5_ok nmX5 hinX5 0 27 rfl rfl (by decide) (List.mem_of_getElem? (i := 2) rfl) rfl rfl rfl rfl (Nat.le_of_ble_eq_true rfl) dX5_goMinute_79 rfl ?_
        refine g_iconst (v := (0 : Int32)) hC dX5_goMinute_82 ci_0 ?_
        refine g_istore_n (lv' := [(3, .int (0 : Int32)), (0, .ref aM), (1, .ref aA), (2, .int j2)]) hC dX5_goMinute_83 rfl (by decide) rfl ?_
        refine g_iconst (v := (0 : Int32)) hC dX5_goMinute_84 ci_0 ?_
        refine g_istore (lv' := [(4, .int (0 : Int32)), (3, .int (0 : Int32)), (0, .ref aM), (1, .ref aA), (2, .int j2)]) hC dX5_goMinute_85 (by decide) rfl ?_
        refine g_lv (lv' := [(0, .ref aM), (1, .ref aA), (3, .int (0 : Int32)), (4, .int (0 : Int32))]) [2, 3, 1, 0] rfl ?_
        exact t87  fu (0 : Int32) (0 : Int32) (0 : Int32) xA hf
      · replace hf := gd_f hc hf
        refine g_aload_n hC 0 dX5_goMinute_11 rfl rfl ?_
        refine g_get (C := RX5) (T := TX5) (N := 28) (v := .ref aMkind) hC hinX5 0 8 rfl rfl (by decide) (List.mem_of_getElem? (i := 1) rfl) rfl dX5_goMinute_12 ?_
        refine g_aload_n hC 1 dX5_goMinute_15 rfl rfl ?_
        refine g_iload_n hC 3 dX5_goMinute_16 rfl rfl ?_
        obtain ⟨hg, hf⟩ := gd_ga hf
        refine g_iald hC 3 2 hg rfl rfl dX5_goMinute_17 ?_
        obtain ⟨hg, hf⟩ := gd_ga hf
        refine g_iald hC 2 1 hg rfl rfl dX5_goMinute_18 ?_
        refine g_iconst (v := (1 : Int32)) hC dX5_goMinute_19 ci_1 ?_
        refine g_icmp_eq (tgt := 41) hC dX5_goMinute_20 (by decide) (fun hc => ?_) (fun hc => ?_)
        · replace hf := gd_t hc hf
          exact t41 k2 hk2 j2 j3 xM_turned xA hf
        · replace hf := gd_f hc hf
          refine g_aload_n hC 0 dX5_goMinute_23 rfl rfl ?_
          refine g_aload_n hC 1 dX5_goMinute_24 rfl rfl ?_
          refine g_aload_n hC 1 dX5_goMinute_25 rfl rfl ?_
          refine g_iload_n hC 3 dX5_goMinute_26 rfl rfl ?_
          refine g_iconst (v := (1 : Int32)) hC dX5_goMinute_27 ci_1 ?_
          refine g_iadd hC dX5_goMinute_28 ?_
          obtain ⟨hg, hf⟩ := gd_ga hf
          refine g_iald hC 3 2 hg rfl rfl dX5_goMinute_29 ?_
          refine g_iload_n hC 2 dX5_goMinute_30 rfl rfl ?_
          obtain ⟨z31, hz31, hf⟩ := gd_b hf
          refine g_callVi (wr := [oI aMnerve iMnerve 5 xMnerve]) (wn := [oO aM 4 [.int xM_thrown, .ref aMtext, .int xM_textSize, .int xM_place, .int xM_walkers, .int xM_light, .int xM_water, .ref aMnerve, .ref aMkind, .int xM_readWalkers, .int xM_readLight, .int xM_readWater, .ref aMreadNerve, .ref aMreadKind, .ref aMpage, .ref aMtrial, .ref aMbook, .int xM_acts, .ref aMkept, .ref aMisKept, .int xM_told, .ref aMtoldMinute, .ref aMtoldHeard, .long xM_seed, .int xM_orderBest, .int xM_orderMany, .ref aMworth, .int xM_turned], oI aMnerve iMnerve 5 xMnerve, oI aMkind iMkind 5 xMkind, oI aA iA 13 xA]) hC [.ref aA, .int (xA (j3 + (1 : Int32)).toNatClampNeg), .int j2] (cX5_isHeard_m (kl X) (kD X) aM aMtext aMnerve aMkind aMreadNerve aMreadKind aMpage aMtrial aMbook aMkept aMisKept aMtoldMinute aMtoldHeard aMworth aA iMkind iA xM_thrown xM_textSize xM_place xM_walkers xM_light xM_water xM_readWalkers xM_readLight xM_readWater xM_acts xM_told xM_seed xM_orderBest xM_orderMany xM_turned xMkind xA (xA (j3 + (1 : Int32)).toNatClampNeg) j2 z31 hz31) gX5_goMinute_X5_isHeard rfl kyX5_isHeard rfl rfl rfl (q0 := 0) rfl [0, 2, 3] [1] [1, 2] [1, 0, 2, 3] rfl rfl rfl rfl (by decide) rfl rfl rfl ⟨rfl, rfl⟩ ⟨Nat.le_of_ble_eq_true rfl, Nat.le_of_ble_eq_true rfl⟩ (Nat.le_of_ble_eq_true rfl) rfl dX5_goMinute_31 ?_
          refine g_if_eq (tgt := 41) hC dX5_goMinute_34 (by decide) (fun hc => ?_) (fun hc => ?_)
          · replace hf := gd_t hc hf
            exact t41 k2 hk2 j2 j3 xM_turned xA hf
          · replace hf := gd_f hc hf
            refine g_iconst (v := (1 : Int32)) hC dX5_goMinute_37 ci_1 ?_
            refine g_goto (tgt := 42) hC dX5_goMinute_38 (by decide) ?_
            exact t42 k2 hk2 j2 j3 (1 : Int32) xM_turned xA hf
  unfold fX5_goMinute at hf
  refine g_iconst (v := (0 : Int32)) hC dX5_goMinute_0 ci_0 ?_
  refine g_istore_n (lv' := [(3, .int (0 : Int32)), (0, .ref aM), (1, .ref aA), (2, .int j2)]) hC dX5_goMinute_1 rfl (by decide) rfl ?_
  refine g_lv (lv' := [(0, .ref aM), (1, .ref aA), (2, .int j2), (3, .int (0 : Int32))]) [1, 2, 3, 0] rfl ?_
  exact t2  fu j2 (0 : Int32) xM_turned xA hf
theorem kyX5_minute : yX5_minute.cls = RX5 ∧ yX5_minute.cls ≠ "java/lang/invoke/MethodHandle" ∧ yX5_minute.cls ≠ "java/lang/invoke/VarHandle" ∧ (parseMethodDescriptor yX5_minute.desc).map (fun d => d.parameters.length) = some 1 := by decide +kernel
set_option maxHeartbeats 4000000 in
set_option maxRecDepth 100000 in
theorem cX5_minute_m (l : Launch) (D : va_G) (aM aMtext aMnerve aMkind aMreadNerve aMreadKind aMpage aMtrial aMbook aMkept aMisKept aMtoldMinute aMtoldHeard aMworth : Nat) (iMnerve iMkind iMpage iMbook : ClassId) (xM_thrown : Int32) (xM_textSize : Int32) (xM_place : Int32) (xM_walkers : Int32) (xM_light : Int32) (xM_water : Int32) (xM_readWalkers : Int32) (xM_readLight : Int32) (xM_readWater : Int32) (xM_acts : Int32) (xM_told : Int32) (xM_seed : Int64) (xM_orderBest : Int32) (xM_orderMany : Int32) (xM_turned : Int32) (xMnerve : Nat → Int32) (xMkind : Nat → Int32) (xMpage : Nat → Int32) (xMbook : Nat → Int32) (j1 : Int32) (z : Int32 × Int32 × Int32 × Int32 × (Nat → Int32) × (Nat → Int32)) (hf : fX5_minute j1 xM_thrown xM_walkers xM_light xM_water xM_acts xM_turned xMnerve xMkind xMpage xMbook = some z) : ∀ sz : Nat, Met l yX5_minute wsX5_minute ({ frames := 3, cells := 0, slots := 0, locals := 71 } : Room) (kPre D [(iMnerve, .int), (iMkind, .int), (iMpage, .int), (iMbook, .int)] [oO aM 4 [.int xM_thrown, .ref aMtext, .int xM_textSize, .int xM_place, .int xM_walkers, .int xM_light, .int xM_water, .ref aMnerve, .ref aMkind, .int xM_readWalkers, .int xM_readLight, .int xM_readWater, .ref aMreadNerve, .ref aMreadKind, .ref aMpage, .ref aMtrial, .ref aMbook, .int xM_acts, .ref aMkept, .ref aMisKept, .int xM_told, .ref aMtoldMinute, .ref aMtoldHeard, .long xM_seed, .int xM_orderBest, .int xM_orderMany, .ref aMworth, .int xM_turned], oI aMnerve iMnerve 5 xMnerve, oI aMkind iMkind 5 xMkind, oI aMpage iMpage 13 xMpage, oI aMbook iMbook 182 xMbook] sz [.ref aM, .int j1]) (kQi D [(iMnerve, .int), (iMkind, .int), (iMpage, .int), (iMbook, .int)] [oO aM 4 [.int xM_thrown, .ref aMtext, .int xM_textSize, .int xM_place, .int xM_walkers, .int xM_light, .int xM_water, .ref aMnerve, .ref aMkind, .int xM_readWalkers, .int xM_readLight, .int xM_readWater, .ref aMreadNerve, .ref aMreadKind, .ref aMpage, .ref aMtrial, .ref aMbook, .int xM_acts, .ref aMkept, .ref aMisKept, .int xM_told, .ref aMtoldMinute, .ref aMtoldHeard, .long xM_seed, .int xM_orderBest, .int xM_orderMany, .ref aMworth, .int xM_turned], oI aMnerve iMnerve 5 xMnerve, oI aMkind iMkind 5 xMkind, oI aMpage iMpage 13 xMpage, oI aMbook iMbook 182 xMbook] sz [oO aM 4 [.int z.2.1, .ref aMtext, .int xM_textSize, .int xM_place, .int xM_walkers, .int xM_light, .int xM_water, .ref aMnerve, .ref aMkind, .int xM_readWalkers, .int xM_readLight, .int xM_readWater, .ref aMreadNerve, .ref aMreadKind, .ref aMpage, .ref aMtrial, .ref aMbook, .int z.2.2.1, .ref aMkept, .ref aMisKept, .int xM_told, .ref aMtoldMinute, .ref aMtoldHeard, .long xM_seed, .int xM_orderBest, .int xM_orderMany, .ref aMworth, .int z.2.2.2.1], oI aMnerve iMnerve 5 xMnerve, oI aMkind iMkind 5 xMkind, oI aMpage iMpage 13 z.2.2.2.2.1, oI aMbook iMbook 182 z.2.2.2.2.2] z.1) 0 0 (va_A [oO aM 4 [.int xM_thrown, .ref aMtext, .int xM_textSize, .int xM_place, .int xM_walkers, .int xM_light, .int xM_water, .ref aMnerve, .ref aMkind, .int xM_readWalkers, .int xM_readLight, .int xM_readWater, .ref aMreadNerve, .ref aMreadKind, .ref aMpage, .ref aMtrial, .ref aMbook, .int xM_acts, .ref aMkept, .ref aMisKept, .int xM_told, .ref aMtoldMinute, .ref aMtoldHeard, .long xM_seed, .int xM_orderBest, .int xM_orderMany, .ref aMworth, .int xM_turned], oI aMnerve iMnerve 5 xMnerve, oI aMkind iMkind 5 xMkind, oI aMpage iMpage 13 xMpage, oI aMbook iMbook 182 xMbook] sz) := by
  refine kMet_i (own := RX5) z (fun u => u.1) (fun u => [oO aM 4 [.int u.2.1, .ref aMtext, .int xM_textSize, .int xM_place, .int xM_walkers, .int xM_light, .int xM_water, .ref aMnerve, .ref aMkind, .int xM_readWalkers, .int xM_readLight, .int xM_readWater, .ref aMreadNerve, .ref aMreadKind, .ref aMpage, .ref aMtrial, .ref aMbook, .int u.2.2.1, .ref aMkept, .ref aMisKept, .int xM_told, .ref aMtoldMinute, .ref aMtoldHeard, .long xM_seed, .int xM_orderBest, .int xM_orderMany, .ref aMworth, .int u.2.2.2.1], oI aMnerve iMnerve 5 xMnerve, oI aMkind iMkind 5 xMkind, oI aMpage iMpage 13 u.2.2.2.2.1, oI aMbook iMbook 182 u.2.2.2.2.2]) rfl (by decide) rfl ⟨rfl, rfl⟩ (Nat.le_of_ble_eq_true rfl) ?_
  intro X hXl hXD hC hQ
  subst hXl
  subst hXD
  change kG X 0 [(0, .ref aM), (1, .int j1)] [] [oO aM 4 [.int xM_thrown, .ref aMtext, .int xM_textSize, .int xM_place, .int xM_walkers, .int xM_light, .int xM_water, .ref aMnerve, .ref aMkind, .int xM_readWalkers, .int xM_readLight, .int xM_readWater, .ref aMreadNerve, .ref aMreadKind, .ref aMpage, .ref aMtrial, .ref aMbook, .int xM_acts, .ref aMkept, .ref aMisKept, .int xM_told, .ref aMtoldMinute, .ref aMtoldHeard, .long xM_seed, .int xM_orderBest, .int xM_orderMany, .ref aMworth, .int xM_turned], oI aMnerve iMnerve 5 xMnerve, oI aMkind iMkind 5 xMkind, oI aMpage iMpage 13 xMpage, oI aMbook iMbook 182 xMbook]
  have hinX5 : ∀ w ∈ wsX50, w ∈ wsX5_minute := fun _ h => List.mem_cons_of_mem _ (List.mem_append_right _ h)
  unfold fX5_minute at hf
  refine g_aload_n hC 0 dX5_minute_0 rfl rfl ?_
  refine g_iconst (v := (0 : Int32)) hC dX5_minute_1 ci_0 ?_
  refine g_put (C := RX5) (T := TX5) (N := 28) (ty := .int) (ws' := [oO aM 4 [.int (0 : Int32), .ref aMtext, .int xM_textSize, .int xM_place, .int xM_walkers, .int xM_light, .int xM_water, .ref aMnerve, .ref aMkind, .int xM_readWalkers, .int xM_readLight, .int xM_readWater, .ref aMreadNerve, .ref aMreadKind, .ref aMpage, .ref aMtrial, .ref aMbook, .int xM_acts, .ref aMkept, .ref aMisKept, .int xM_told, .ref aMtoldMinute, .ref aMtoldHeard, .long xM_seed, .int xM_orderBest, .int xM_orderMany, .ref aMworth, .int xM_turned], oI aMnerve iMnerve 5 xMnerve, oI aMkind iMkind 5 xMkind, oI aMpage iMpage 13 xMpage, oI aMbook iMbook 182 xMbook]) hC tyX5_ok nmX5 hinX5 0 0 rfl rfl (by decide) (List.mem_of_getElem? (i := 1) rfl) rfl rfl rfl rfl (Nat.le_of_ble_eq_true rfl) dX5_minute_2 rfl ?_
  refine g_iload_n hC 1 dX5_minute_5 rfl rfl ?_
  refine g_i2l hC dX5_minute_6 ?_
  refine g_lconst (v := (0 : Int64)) hC dX5_minute_7 rfl ?_
  refine g_iconst (v := (1 : Int32)) hC dX5_minute_8 ci_1 ?_
  refine g_aload_n hC 0 dX5_minute_9 rfl rfl ?_
  refine g_get (C := RX5) (T := TX5) (N := 28) (v := .int xM_walkers) hC hinX5 0 4 rfl rfl (by decide) (List.mem_of_getElem? (i := 2) rfl) rfl dX5_minute_10 ?_
  refine g_ishl hC dX5_minute_13 ?_
  refine g_iconst (v := (1 : Int32)) hC dX5_minute_14 ci_1 ?_
  refine g_isub hC dX5_minute_15 ?_
  refine g_i2l hC dX5_minute_16 ?_
  obtain ⟨z17, hz17, hf⟩ := gd_b hf
  refine g_callSi (wr := [oO aM 4 [.int (0 : Int32), .ref aMtext, .int xM_textSize, .int xM_place, .int xM_walkers, .int xM_light, .int xM_water, .ref aMnerve, .ref aMkind, .int xM_readWalkers, .int xM_readLight, .int xM_readWater, .ref aMreadNerve, .ref aMreadKind, .ref aMpage, .ref aMtrial, .ref aMbook, .int xM_acts, .ref aMkept, .ref aMisKept, .int xM_told, .ref aMtoldMinute, .ref aMtoldHeard, .long xM_seed, .int xM_orderBest, .int xM_orderMany, .ref aMworth, .int xM_turned], oI aMnerve iMnerve 5 xMnerve, oI aMkind iMkind 5 xMkind, oI aMpage iMpage 13 xMpage, oI aMbook iMbook 182 xMbook]) (wn := [oO aM 4 [.int (0 : Int32), .ref aMtext, .int xM_textSize, .int xM_place, .int xM_walkers, .int xM_light, .int xM_water, .ref aMnerve, .ref aMkind, .int xM_readWalkers, .int xM_readLight, .int xM_readWater, .ref aMreadNerve, .ref aMreadKind, .ref aMpage, .ref aMtrial, .ref aMbook, .int xM_acts, .ref aMkept, .ref aMisKept, .int xM_told, .ref aMtoldMinute, .ref aMtoldHeard, .long xM_seed, .int xM_orderBest, .int xM_orderMany, .ref aMworth, .int xM_turned], oI aMnerve iMnerve 5 xMnerve, oI aMkind iMkind 5 xMkind, oI aMpage iMpage 13 xMpage, oI aMbook iMbook 182 xMbook]) hC [.long j1.toInt64, .long (0 : Int64), .long (((1 : Int32) <<< (xM_walkers &&& 31)) - (1 : Int32)).toInt64] (cX5_in_m (kl X) (kD X) j1.toInt64 (0 : Int64) ((((1 : Int32) <<< (xM_walkers &&& 31)) - (1 : Int32)).toInt64) z17 hz17) gX5_minute_X5_in rfl kyX5_in rfl [] [0, 1, 2, 3, 4] [] [0, 1, 2, 3, 4] rfl rfl rfl rfl (by decide) rfl rfl rfl ⟨rfl, rfl⟩ ⟨Nat.le_of_ble_eq_true rfl, Nat.le_of_ble_eq_true rfl⟩ (Nat.le_of_ble_eq_true rfl) rfl dX5_minute_17 ?_
  refine g_if_ne (tgt := 26) hC dX5_minute_20 (by decide) (fun hc => ?_) (fun hc => ?_)
  · replace hf := gd_f hc hf
    refine g_aload_n hC 0 dX5_minute_26 rfl rfl ?_
    refine g_get (C := RX5) (T := TX5) (N := 28) (v := .ref aMpage) hC hinX5 0 14 rfl rfl (by decide) (List.mem_of_getElem? (i := 3) rfl) rfl dX5_minute_27 ?_
    refine g_bipush (v := (11 : Int32)) hC dX5_minute_30 cb_11 ?_
    obtain ⟨hg, hf⟩ := gd_ga hf
    refine g_iald hC 3 2 hg rfl rfl dX5_minute_32 ?_
    refine g_aload_n hC 0 dX5_minute_33 rfl rfl ?_
    refine g_get (C := RX5) (T := TX5) (N := 28) (v := .int xM_light) hC hinX5 0 5 rfl rfl (by decide) (List.mem_of_getElem? (i := 4) rfl) rfl dX5_minute_34 ?_
    refine g_icmp_ne (tgt := 43) hC dX5_minute_37 (by decide) (fun hc => ?_) (fun hc => ?_)
    · replace hf := gd_f hc hf
      refine g_aload_n hC 0 dX5_minute_43 rfl rfl ?_
      obtain ⟨z44, hz44, hf⟩ := gd_b hf
      refine g_callVv (wr := [oI aMnerve iMnerve 5 xMnerve, oI aMkind iMkind 5 xMkind]) (wn := [oO aM 4 [.int (0 : Int32), .ref aMtext, .int xM_textSize, .int xM_place, .int xM_walkers, .int xM_light, .int xM_water, .ref aMnerve, .ref aMkind, .int xM_readWalkers, .int xM_readLight, .int xM_readWater, .ref aMreadNerve, .ref aMreadKind, .ref aMpage, .ref aMtrial, .ref aMbook, .int z44.1, .ref aMkept, .ref aMisKept, .int xM_told, .ref aMtoldMinute, .ref aMtoldHeard, .long xM_seed, .int xM_orderBest, .int xM_orderMany, .ref aMworth, .int xM_turned], oI aMnerve iMnerve 5 xMnerve, oI aMkind iMkind 5 xMkind, oI aMpage iMpage 13 xMpage, oI aMbook iMbook 182 z44.2]) hC [] (cX5_note_m (kl X) (kD X) aM aMtext aMnerve aMkind aMreadNerve aMreadKind aMpage aMtrial aMbook aMkept aMisKept aMtoldMinute aMtoldHeard aMworth iMpage iMbook (0 : Int32) xM_textSize xM_place xM_walkers xM_light xM_water xM_readWalkers xM_readLight xM_readWater xM_acts xM_told xM_seed xM_orderBest xM_orderMany xM_turned xMpage xMbook z44 hz44) gX5_minute_X5_note rfl kyX5_note rfl rfl rfl (q0 := 0) rfl [0, 3, 4] [1, 2] [2, 3] [2, 0, 1, 3, 4] rfl rfl rfl rfl (by decide) rfl rfl rfl ⟨rfl, rfl⟩ ⟨Nat.le_of_ble_eq_true rfl, Nat.le_of_ble_eq_true rfl⟩ (Nat.le_of_ble_eq_true rfl) rfl dX5_minute_44 ?_
      refine g_aload_n hC 0 dX5_minute_47 rfl rfl ?_
      refine g_aload_n hC 0 dX5_minute_48 rfl rfl ?_
      refine g_get (C := RX5) (T := TX5) (N := 28) (v := .ref aMpage) hC hinX5 0 14 rfl rfl (by decide) (List.mem_of_getElem? (i := 3) rfl) rfl dX5_minute_49 ?_
      refine g_iload_n hC 1 dX5_minute_52 rfl rfl ?_
      obtain ⟨z53, hz53, hf⟩ := gd_b hf
      refine g_callVi (wr := [oI aMbook iMbook 182 z44.2]) (wn := [oO aM 4 [.int (0 : Int32), .ref aMtext, .int xM_textSize, .int xM_place, .int xM_walkers, .int xM_light, .int xM_water, .ref aMnerve, .ref aMkind, .int xM_readWalkers, .int xM_readLight, .int xM_readWater, .ref aMreadNerve, .ref aMreadKind, .ref aMpage, .ref aMtrial, .ref aMbook, .int z44.1, .ref aMkept, .ref aMisKept, .int xM_told, .ref aMtoldMinute, .ref aMtoldHeard, .long xM_seed, .int xM_orderBest, .int xM_orderMany, .ref aMworth, .int z53.2.1], oI aMnerve iMnerve 5 xMnerve, oI aMkind iMkind 5 xMkind, oI aMpage iMpage 13 z53.2.2, oI aMbook iMbook 182 z44.2]) hC [.ref aMpage, .int j1] (cX5_goMinute_m (kl X) (kD X) aM aMtext aMnerve aMkind aMreadNerve aMreadKind aMpage aMtrial aMbook aMkept aMisKept aMtoldMinute aMtoldHeard aMworth aMpage iMnerve iMkind iMpage (0 : Int32) xM_textSize xM_place xM_walkers xM_light xM_water xM_readWalkers xM_readLight xM_readWater z44.1 xM_told xM_seed xM_orderBest xM_orderMany xM_turned xMnerve xMkind xMpage j1 z53 hz53) gX5_minute_X5_goMinute rfl kyX5_goMinute rfl rfl rfl (q0 := 0) rfl [0, 1, 2, 3] [4] [0, 1, 2] [1, 2, 3, 4, 0] rfl rfl rfl rfl (by decide) rfl rfl rfl ⟨rfl, rfl⟩ ⟨Nat.le_of_ble_eq_true rfl, Nat.le_of_ble_eq_true rfl⟩ (Nat.le_of_ble_eq_true rfl) rfl dX5_minute_53 ?_
      exact hQ (z53.1, (0 : Int32), z44.1, z53.2.1, z53.2.2, z44.2) _ _ (gd_s hf) dX5_minute_56
    · replace hf := gd_t hc hf
      refine g_bipush (v := (-3 : Int32)) hC dX5_minute_40 cb_m3 ?_
      exact hQ ((-3 : Int32), (0 : Int32), xM_acts, xM_turned, xMpage, xMbook) _ _ (gd_s hf) dX5_minute_42
  · replace hf := gd_t hc hf
    refine g_bipush (v := (-2 : Int32)) hC dX5_minute_23 cb_m2 ?_
    exact hQ ((-2 : Int32), (0 : Int32), xM_acts, xM_turned, xMpage, xMbook) _ _ (gd_s hf) dX5_minute_25
theorem kyX5_change : yX5_change.cls = RX5 ∧ yX5_change.cls ≠ "java/lang/invoke/MethodHandle" ∧ yX5_change.cls ≠ "java/lang/invoke/VarHandle" ∧ (parseMethodDescriptor yX5_change.desc).map (fun d => d.parameters.length) = some 1 := by decide +kernel
set_option maxHeartbeats 4000000 in
set_option maxRecDepth 100000 in
theorem cX5_change_m (l : Launch) (D : va_G) (aM aMtext aMnerve aMkind aMreadNerve aMreadKind aMpage aMtrial aMbook aMkept aMisKept aMtoldMinute aMtoldHeard aMworth : Nat) (iMpage iMbook : ClassId) (xM_thrown : Int32) (xM_textSize : Int32) (xM_place : Int32) (xM_walkers : Int32) (xM_light : Int32) (xM_water : Int32) (xM_readWalkers : Int32) (xM_readLight : Int32) (xM_readWater : Int32) (xM_acts : Int32) (xM_told : Int32) (xM_seed : Int64) (xM_orderBest : Int32) (xM_orderMany : Int32) (xM_turned : Int32) (xMpage : Nat → Int32) (xMbook : Nat → Int32) (j1 : Int32) (z : Int32 × Int32 × Int32 × (Nat → Int32) × (Nat → Int32)) (hf : fX5_change j1 xM_thrown xM_light xM_acts xMpage xMbook = some z) : ∀ sz : Nat, Met l yX5_change wsX5_change ({ frames := 1, cells := 0, slots := 0, locals := 25 } : Room) (kPre D [(iMpage, .int), (iMbook, .int)] [oO aM 4 [.int xM_thrown, .ref aMtext, .int xM_textSize, .int xM_place, .int xM_walkers, .int xM_light, .int xM_water, .ref aMnerve, .ref aMkind, .int xM_readWalkers, .int xM_readLight, .int xM_readWater, .ref aMreadNerve, .ref aMreadKind, .ref aMpage, .ref aMtrial, .ref aMbook, .int xM_acts, .ref aMkept, .ref aMisKept, .int xM_told, .ref aMtoldMinute, .ref aMtoldHeard, .long xM_seed, .int xM_orderBest, .int xM_orderMany, .ref aMworth, .int xM_turned], oI aMpage iMpage 13 xMpage, oI aMbook iMbook 182 xMbook] sz [.ref aM, .int j1]) (kQi D [(iMpage, .int), (iMbook, .int)] [oO aM 4 [.int xM_thrown, .ref aMtext, .int xM_textSize, .int xM_place, .int xM_walkers, .int xM_light, .int xM_water, .ref aMnerve, .ref aMkind, .int xM_readWalkers, .int xM_readLight, .int xM_readWater, .ref aMreadNerve, .ref aMreadKind, .ref aMpage, .ref aMtrial, .ref aMbook, .int xM_acts, .ref aMkept, .ref aMisKept, .int xM_told, .ref aMtoldMinute, .ref aMtoldHeard, .long xM_seed, .int xM_orderBest, .int xM_orderMany, .ref aMworth, .int xM_turned], oI aMpage iMpage 13 xMpage, oI aMbook iMbook 182 xMbook] sz [oO aM 4 [.int z.2.1, .ref aMtext, .int xM_textSize, .int xM_place, .int xM_walkers, .int xM_light, .int xM_water, .ref aMnerve, .ref aMkind, .int xM_readWalkers, .int xM_readLight, .int xM_readWater, .ref aMreadNerve, .ref aMreadKind, .ref aMpage, .ref aMtrial, .ref aMbook, .int z.2.2.1, .ref aMkept, .ref aMisKept, .int xM_told, .ref aMtoldMinute, .ref aMtoldHeard, .long xM_seed, .int xM_orderBest, .int xM_orderMany, .ref aMworth, .int xM_turned], oI aMpage iMpage 13 z.2.2.2.1, oI aMbook iMbook 182 z.2.2.2.2] z.1) 0 0 (va_A [oO aM 4 [.int xM_thrown, .ref aMtext, .int xM_textSize, .int xM_place, .int xM_walkers, .int xM_light, .int xM_water, .ref aMnerve, .ref aMkind, .int xM_readWalkers, .int xM_readLight, .int xM_readWater, .ref aMreadNerve, .ref aMreadKind, .ref aMpage, .ref aMtrial, .ref aMbook, .int xM_acts, .ref aMkept, .ref aMisKept, .int xM_told, .ref aMtoldMinute, .ref aMtoldHeard, .long xM_seed, .int xM_orderBest, .int xM_orderMany, .ref aMworth, .int xM_turned], oI aMpage iMpage 13 xMpage, oI aMbook iMbook 182 xMbook] sz) := by
  refine kMet_i (own := RX5) z (fun u => u.1) (fun u => [oO aM 4 [.int u.2.1, .ref aMtext, .int xM_textSize, .int xM_place, .int xM_walkers, .int xM_light, .int xM_water, .ref aMnerve, .ref aMkind, .int xM_readWalkers, .int xM_readLight, .int xM_readWater, .ref aMreadNerve, .ref aMreadKind, .ref aMpage, .ref aMtrial, .ref aMbook, .int u.2.2.1, .ref aMkept, .ref aMisKept, .int xM_told, .ref aMtoldMinute, .ref aMtoldHeard, .long xM_seed, .int xM_orderBest, .int xM_orderMany, .ref aMworth, .int xM_turned], oI aMpage iMpage 13 u.2.2.2.1, oI aMbook iMbook 182 u.2.2.2.2]) rfl (by decide) rfl ⟨rfl, rfl⟩ (Nat.le_of_ble_eq_true rfl) ?_
  intro X hXl hXD hC hQ
  subst hXl
  subst hXD
  change kG X 0 [(0, .ref aM), (1, .int j1)] [] [oO aM 4 [.int xM_thrown, .ref aMtext, .int xM_textSize, .int xM_place, .int xM_walkers, .int xM_light, .int xM_water, .ref aMnerve, .ref aMkind, .int xM_readWalkers, .int xM_readLight, .int xM_readWater, .ref aMreadNerve, .ref aMreadKind, .ref aMpage, .ref aMtrial, .ref aMbook, .int xM_acts, .ref aMkept, .ref aMisKept, .int xM_told, .ref aMtoldMinute, .ref aMtoldHeard, .long xM_seed, .int xM_orderBest, .int xM_orderMany, .ref aMworth, .int xM_turned], oI aMpage iMpage 13 xMpage, oI aMbook iMbook 182 xMbook]
  have hinX5 : ∀ w ∈ wsX50, w ∈ wsX5_change := fun _ h => List.mem_cons_of_mem _ (List.mem_append_right _ h)
  unfold fX5_change at hf
  refine g_aload_n hC 0 dX5_change_0 rfl rfl ?_
  refine g_iconst (v := (0 : Int32)) hC dX5_change_1 ci_0 ?_
  refine g_put (C := RX5) (T := TX5) (N := 28) (ty := .int) (ws' := [oO aM 4 [.int (0 : Int32), .ref aMtext, .int xM_textSize, .int xM_place, .int xM_walkers, .int xM_light, .int xM_water, .ref aMnerve, .ref aMkind, .int xM_readWalkers, .int xM_readLight, .int xM_readWater, .ref aMreadNerve, .ref aMreadKind, .ref aMpage, .ref aMtrial, .ref aMbook, .int xM_acts, .ref aMkept, .ref aMisKept, .int xM_told, .ref aMtoldMinute, .ref aMtoldHeard, .long xM_seed, .int xM_orderBest, .int xM_orderMany, .ref aMworth, .int xM_turned], oI aMpage iMpage 13 xMpage, oI aMbook iMbook 182 xMbook]) hC tyX5_ok nmX5 hinX5 0 0 rfl rfl (by decide) (List.mem_of_getElem? (i := 1) rfl) rfl rfl rfl rfl (Nat.le_of_ble_eq_true rfl) dX5_change_2 rfl ?_
  refine g_iload_n hC 1 dX5_change_5 rfl rfl ?_
  refine g_i2l hC dX5_change_6 ?_
  refine g_lconst (v := (0 : Int64)) hC dX5_change_7 rfl ?_
  refine g_ldc2 (v := (3 : Int64)) hC dX5_change_8 (List.mem_of_getElem? (i := 2) rfl) ?_
  obtain ⟨z11, hz11, hf⟩ := gd_b hf
  refine g_callSi (wr := [oO aM 4 [.int (0 : Int32), .ref aMtext, .int xM_textSize, .int xM_place, .int xM_walkers, .int xM_light, .int xM_water, .ref aMnerve, .ref aMkind, .int xM_readWalkers, .int xM_readLight, .int xM_readWater, .ref aMreadNerve, .ref aMreadKind, .ref aMpage, .ref aMtrial, .ref aMbook, .int xM_acts, .ref aMkept, .ref aMisKept, .int xM_told, .ref aMtoldMinute, .ref aMtoldHeard, .long xM_seed, .int xM_orderBest, .int xM_orderMany, .ref aMworth, .int xM_turned], oI aMpage iMpage 13 xMpage, oI aMbook iMbook 182 xMbook]) (wn := [oO aM 4 [.int (0 : Int32), .ref aMtext, .int xM_textSize, .int xM_place, .int xM_walkers, .int xM_light, .int xM_water, .ref aMnerve, .ref aMkind, .int xM_readWalkers, .int xM_readLight, .int xM_readWater, .ref aMreadNerve, .ref aMreadKind, .ref aMpage, .ref aMtrial, .ref aMbook, .int xM_acts, .ref aMkept, .ref aMisKept, .int xM_told, .ref aMtoldMinute, .ref aMtoldHeard, .long xM_seed, .int xM_orderBest, .int xM_orderMany, .ref aMworth, .int xM_turned], oI aMpage iMpage 13 xMpage, oI aMbook iMbook 182 xMbook]) hC [.long j1.toInt64, .long (0 : Int64), .long (3 : Int64)] (cX5_in_m (kl X) (kD X) j1.toInt64 (0 : Int64) (3 : Int64) z11 hz11) gX5_change_X5_in rfl kyX5_in rfl [] [0, 1, 2] [] [0, 1, 2] rfl rfl rfl rfl (by decide) rfl rfl rfl ⟨rfl, rfl⟩ ⟨Nat.le_of_ble_eq_true rfl, Nat.le_of_ble_eq_true rfl⟩ (Nat.le_of_ble_eq_true rfl) rfl dX5_change_11 ?_
  refine g_if_ne (tgt := 20) hC dX5_change_14 (by decide) (fun hc => ?_) (fun hc => ?_)
  · replace hf := gd_f hc hf
    refine g_iload_n hC 1 dX5_change_20 rfl rfl ?_
    refine g_iconst (v := (1 : Int32)) hC dX5_change_21 ci_1 ?_
    refine g_iadd hC dX5_change_22 ?_
    refine g_aload_n hC 0 dX5_change_23 rfl rfl ?_
    refine g_get (C := RX5) (T := TX5) (N := 28) (v := .ref aMpage) hC hinX5 0 14 rfl rfl (by decide) (List.mem_of_getElem? (i := 3) rfl) rfl dX5_change_24 ?_
    refine g_iconst (v := (5 : Int32)) hC dX5_change_27 ci_5 ?_
    obtain ⟨hg, hf⟩ := gd_ga hf
    refine g_iald hC 1 0 hg rfl rfl dX5_change_28 ?_
    refine g_icmp_ge (tgt := 46) hC dX5_change_29 (by decide) (fun hc => ?_) (fun hc => ?_)
    · replace hf := gd_t hc hf
      refine g_bipush (v := (-3 : Int32)) hC dX5_change_46 cb_m3 ?_
      exact hQ ((-3 : Int32), (0 : Int32), xM_acts, xMpage, xMbook) _ _ (gd_s hf) dX5_change_48
    · replace hf := gd_f hc hf
      refine g_aload_n hC 0 dX5_change_32 rfl rfl ?_
      refine g_get (C := RX5) (T := TX5) (N := 28) (v := .ref aMpage) hC hinX5 0 14 rfl rfl (by decide) (List.mem_of_getElem? (i := 3) rfl) rfl dX5_change_33 ?_
      refine g_bipush (v := (11 : Int32)) hC dX5_change_36 cb_11 ?_
      obtain ⟨hg, hf⟩ := gd_ga hf
      refine g_iald hC 1 0 hg rfl rfl dX5_change_38 ?_
      refine g_aload_n hC 0 dX5_change_39 rfl rfl ?_
      refine g_get (C := RX5) (T := TX5) (N := 28) (v := .int xM_light) hC hinX5 0 5 rfl rfl (by decide) (List.mem_of_getElem? (i := 4) rfl) rfl dX5_change_40 ?_
      refine g_icmp_ne (tgt := 49) hC dX5_change_43 (by decide) (fun hc => ?_) (fun hc => ?_)
      · replace hf := gd_f hc hf
        refine g_aload_n hC 0 dX5_change_49 rfl rfl ?_
        obtain ⟨z50, hz50, hf⟩ := gd_b hf
        refine g_callVv (wr := []) (wn := [oO aM 4 [.int (0 : Int32), .ref aMtext, .int xM_textSize, .int xM_place, .int xM_walkers, .int xM_light, .int xM_water, .ref aMnerve, .ref aMkind, .int xM_readWalkers, .int xM_readLight, .int xM_readWater, .ref aMreadNerve, .ref aMreadKind, .ref aMpage, .ref aMtrial, .ref aMbook, .int z50.1, .ref aMkept, .ref aMisKept, .int xM_told, .ref aMtoldMinute, .ref aMtoldHeard, .long xM_seed, .int xM_orderBest, .int xM_orderMany, .ref aMworth, .int xM_turned], oI aMpage iMpage 13 xMpage, oI aMbook iMbook 182 z50.2]) hC [] (cX5_note_m (kl X) (kD X) aM aMtext aMnerve aMkind aMreadNerve aMreadKind aMpage aMtrial aMbook aMkept aMisKept aMtoldMinute aMtoldHeard aMworth iMpage iMbook (0 : Int32) xM_textSize xM_place xM_walkers xM_light xM_water xM_readWalkers xM_readLight xM_readWater xM_acts xM_told xM_seed xM_orderBest xM_orderMany xM_turned xMpage xMbook z50 hz50) gX5_change_X5_note rfl kyX5_note rfl rfl rfl (q0 := 0) rfl [0, 1, 2] [] [0, 1] [0, 1, 2] rfl rfl rfl rfl (by decide) rfl rfl rfl ⟨rfl, rfl⟩ ⟨Nat.le_of_ble_eq_true rfl, Nat.le_of_ble_eq_true rfl⟩ (Nat.le_of_ble_eq_true rfl) rfl dX5_change_50 ?_
        refine g_aload_n hC 0 dX5_change_53 rfl rfl ?_
        refine g_get (C := RX5) (T := TX5) (N := 28) (v := .ref aMpage) hC hinX5 0 14 rfl rfl (by decide) (List.mem_of_getElem? (i := 3) rfl) rfl dX5_change_54 ?_
        refine g_iload_n hC 1 dX5_change_57 rfl rfl ?_
        obtain ⟨hg, hf⟩ := gd_ga hf
        refine g_iald hC 1 0 hg rfl rfl dX5_change_58 ?_
        refine g_istore_n (lv' := [(2, .int (xMpage j1.toNatClampNeg)), (0, .ref aM), (1, .int j1)]) hC dX5_change_59 rfl (by decide) rfl ?_
        refine g_aload_n hC 1 dX5_change_60 rfl rfl ?_
        refine g_get (C := RX5) (T := TX5) (N := 28) (v := .ref aMpage) hC hinX5 0 14 rfl rfl (by decide) (List.mem_of_getElem? (i := 3) rfl) rfl dX5_change_61 ?_
        refine g_iload_n hC 2 dX5_change_64 rfl rfl ?_
        refine g_aload_n hC 1 dX5_change_65 rfl rfl ?_
        refine g_get (C := RX5) (T := TX5) (N := 28) (v := .ref aMpage) hC hinX5 0 14 rfl rfl (by decide) (List.mem_of_getElem? (i := 3) rfl) rfl dX5_change_66 ?_
        refine g_iload_n hC 2 dX5_change_69 rfl rfl ?_
        refine g_iconst (v := (1 : Int32)) hC dX5_change_70 ci_1 ?_
        refine g_iadd hC dX5_change_71 ?_
        obtain ⟨hg, hf⟩ := gd_ga hf
        refine g_iald hC 1 0 hg rfl rfl dX5_change_72 ?_
        obtain ⟨hg, hf⟩ := gd_ga hf
        refine g_iast (ws' := [oO aM 4 [.int (0 : Int32), .ref aMtext, .int xM_textSize, .int xM_place, .int xM_walkers, .int xM_light, .int xM_water, .ref aMnerve, .ref aMkind, .int xM_readWalkers, .int xM_readLight, .int xM_readWater, .ref aMreadNerve, .ref aMreadKind, .ref aMpage, .ref aMtrial, .ref aMbook, .int z50.1, .ref aMkept, .ref aMisKept, .int xM_told, .ref aMtoldMinute, .ref aMtoldHeard, .long xM_seed, .int xM_orderBest, .int xM_orderMany, .ref aMworth, .int xM_turned], oI aMpage iMpage 13 (upd xMpage j1.toNatClampNeg (xMpage (j1 + (1 : Int32)).toNatClampNeg)), oI aMbook iMbook 182 z50.2]) hC 1 0 hg rfl rfl dX5_change_73 rfl ?_
        refine g_aload_n hC 1 dX5_change_74 rfl rfl ?_
        refine g_get (C := RX5) (T := TX5) (N := 28) (v := .ref aMpage) hC hinX5 0 14 rfl rfl (by decide) (List.mem_of_getElem? (i := 3) rfl) rfl dX5_change_75 ?_
        refine g_iload_n hC 2 dX5_change_78 rfl rfl ?_
        refine g_iconst (v := (1 : Int32)) hC dX5_change_79 ci_1 ?_
        refine g_iadd hC dX5_change_80 ?_
        refine g_iload_n hC 0 dX5_change_81 rfl rfl ?_
        obtain ⟨hg, hf⟩ := gd_ga hf
        refine g_iast (ws' := [oO aM 4 [.int (0 : Int32), .ref aMtext, .int xM_textSize, .int xM_place, .int xM_walkers, .int xM_light, .int xM_water, .ref aMnerve, .ref aMkind, .int xM_readWalkers, .int xM_readLight, .int xM_readWater, .ref aMreadNerve, .ref aMreadKind, .ref aMpage, .ref aMtrial, .ref aMbook, .int z50.1, .ref aMkept, .ref aMisKept, .int xM_told, .ref aMtoldMinute, .ref aMtoldHeard, .long xM_seed, .int xM_orderBest, .int xM_orderMany, .ref aMworth, .int xM_turned], oI aMpage iMpage 13 (upd (upd xMpage j1.toNatClampNeg (xMpage (j1 + (1 : Int32)).toNatClampNeg)) (j1 + (1 : Int32)).toNatClampNeg (xMpage j1.toNatClampNeg)), oI aMbook iMbook 182 z50.2]) hC 1 0 hg rfl rfl dX5_change_82 rfl ?_
        refine g_aload_n hC 1 dX5_change_83 rfl rfl ?_
        refine g_get (C := RX5) (T := TX5) (N := 28) (v := .ref aMpage) hC hinX5 0 14 rfl rfl (by decide) (List.mem_of_getElem? (i := 3) rfl) rfl dX5_change_84 ?_
        refine g_bipush (v := (6 : Int32)) hC dX5_change_87 cb_6 ?_
        refine g_aload_n hC 1 dX5_change_89 rfl rfl ?_
        refine g_get (C := RX5) (T := TX5) (N := 28) (v := .ref aMpage) hC hinX5 0 14 rfl rfl (by decide) (List.mem_of_getElem? (i := 3) rfl) rfl dX5_change_90 ?_
        refine g_iload_n hC 2 dX5_change_93 rfl rfl ?_
        obtain ⟨hg, hf⟩ := gd_ga hf
        refine g_iald hC 1 0 hg rfl rfl dX5_change_94 ?_
        refine g_iadd hC dX5_change_95 ?_
        refine g_iconst (v := (0 : Int32)) hC dX5_change_96 ci_0 ?_
        obtain ⟨hg, hf⟩ := gd_ga hf
        refine g_iast (ws' := [oO aM 4 [.int (0 : Int32), .ref aMtext, .int xM_textSize, .int xM_place, .int xM_walkers, .int xM_light, .int xM_water, .ref aMnerve, .ref aMkind, .int xM_readWalkers, .int xM_readLight, .int xM_readWater, .ref aMreadNerve, .ref aMreadKind, .ref aMpage, .ref aMtrial, .ref aMbook, .int z50.1, .ref aMkept, .ref aMisKept, .int xM_told, .ref aMtoldMinute, .ref aMtoldHeard, .long xM_seed, .int xM_orderBest, .int xM_orderMany, .ref aMworth, .int xM_turned], oI aMpage iMpage 13 (upd (upd (upd xMpage j1.toNatClampNeg (xMpage (j1 + (1 : Int32)).toNatClampNeg)) (j1 + (1 : Int32)).toNatClampNeg (xMpage j1.toNatClampNeg)) ((6 : Int32) + ((upd (upd xMpage j1.toNatClampNeg (xMpage (j1 + (1 : Int32)).toNatClampNeg)) (j1 + (1 : Int32)).toNatClampNeg (xMpage j1.toNatClampNeg)) j1.toNatClampNeg)).toNatClampNeg (0 : Int32)), oI aMbook iMbook 182 z50.2]) hC 1 0 hg rfl rfl dX5_change_97 rfl ?_
        refine g_aload_n hC 1 dX5_change_98 rfl rfl ?_
        refine g_get (C := RX5) (T := TX5) (N := 28) (v := .ref aMpage) hC hinX5 0 14 rfl rfl (by decide) (List.mem_of_getElem? (i := 3) rfl) rfl dX5_change_99 ?_
        refine g_bipush (v := (6 : Int32)) hC dX5_change_102 cb_6 ?_
        refine g_iload_n hC 0 dX5_change_104 rfl rfl ?_
        refine g_iadd hC dX5_change_105 ?_
        refine g_iconst (v := (0 : Int32)) hC dX5_change_106 ci_0 ?_
        obtain ⟨hg, hf⟩ := gd_ga hf
        refine g_iast (ws' := [oO aM 4 [.int (0 : Int32), .ref aMtext, .int xM_textSize, .int xM_place, .int xM_walkers, .int xM_light, .int xM_water, .ref aMnerve, .ref aMkind, .int xM_readWalkers, .int xM_readLight, .int xM_readWater, .ref aMreadNerve, .ref aMreadKind, .ref aMpage, .ref aMtrial, .ref aMbook, .int z50.1, .ref aMkept, .ref aMisKept, .int xM_told, .ref aMtoldMinute, .ref aMtoldHeard, .long xM_seed, .int xM_orderBest, .int xM_orderMany, .ref aMworth, .int xM_turned], oI aMpage iMpage 13 (upd (upd (upd (upd xMpage j1.toNatClampNeg (xMpage (j1 + (1 : Int32)).toNatClampNeg)) (j1 + (1 : Int32)).toNatClampNeg (xMpage j1.toNatClampNeg)) ((6 : Int32) + ((upd (upd xMpage j1.toNatClampNeg (xMpage (j1 + (1 : Int32)).toNatClampNeg)) (j1 + (1 : Int32)).toNatClampNeg (xMpage j1.toNatClampNeg)) j1.toNatClampNeg)).toNatClampNeg (0 : Int32)) ((6 : Int32) + (xMpage j1.toNatClampNeg)).toNatClampNeg (0 : Int32)), oI aMbook iMbook 182 z50.2]) hC 1 0 hg rfl rfl dX5_change_107 rfl ?_
        refine g_aload_n hC 1 dX5_change_108 rfl rfl ?_
        refine g_get (C := RX5) (T := TX5) (N := 28) (v := .ref aMpage) hC hinX5 0 14 rfl rfl (by decide) (List.mem_of_getElem? (i := 3) rfl) rfl dX5_change_109 ?_
        obtain ⟨z112, hz112, hf⟩ := gd_b hf
        refine g_callSi (wr := [oO aM 4 [.int (0 : Int32), .ref aMtext, .int xM_textSize, .int xM_place, .int xM_walkers, .int xM_light, .int xM_water, .ref aMnerve, .ref aMkind, .int xM_readWalkers, .int xM_readLight, .int xM_readWater, .ref aMreadNerve, .ref aMreadKind, .ref aMpage, .ref aMtrial, .ref aMbook, .int z50.1, .ref aMkept, .ref aMisKept, .int xM_told, .ref aMtoldMinute, .ref aMtoldHeard, .long xM_seed, .int xM_orderBest, .int xM_orderMany, .ref aMworth, .int xM_turned], oI aMbook iMbook 182 z50.2]) (wn := [oO aM 4 [.int (0 : Int32), .ref aMtext, .int xM_textSize, .int xM_place, .int xM_walkers, .int xM_light, .int xM_water, .ref aMnerve, .ref aMkind, .int xM_readWalkers, .int xM_readLight, .int xM_readWater, .ref aMreadNerve, .ref aMreadKind, .ref aMpage, .ref aMtrial, .ref aMbook, .int z50.1, .ref aMkept, .ref aMisKept, .int xM_told, .ref aMtoldMinute, .ref aMtoldHeard, .long xM_seed, .int xM_orderBest, .int xM_orderMany, .ref aMworth, .int xM_turned], oI aMpage iMpage 13 (upd (upd (upd (upd xMpage j1.toNatClampNeg (xMpage (j1 + (1 : Int32)).toNatClampNeg)) (j1 + (1 : Int32)).toNatClampNeg (xMpage j1.toNatClampNeg)) ((6 : Int32) + ((upd (upd xMpage j1.toNatClampNeg (xMpage (j1 + (1 : Int32)).toNatClampNeg)) (j1 + (1 : Int32)).toNatClampNeg (xMpage j1.toNatClampNeg)) j1.toNatClampNeg)).toNatClampNeg (0 : Int32)) ((6 : Int32) + (xMpage j1.toNatClampNeg)).toNatClampNeg (0 : Int32)), oI aMbook iMbook 182 z50.2]) hC [.ref aMpage] (cX5_figuresOf_m (kl X) (kD X) aMpage iMpage (upd (upd (upd (upd xMpage j1.toNatClampNeg (xMpage (j1 + (1 : Int32)).toNatClampNeg)) (j1 + (1 : Int32)).toNatClampNeg (xMpage j1.toNatClampNeg)) ((6 : Int32) + ((upd (upd xMpage j1.toNatClampNeg (xMpage (j1 + (1 : Int32)).toNatClampNeg)) (j1 + (1 : Int32)).toNatClampNeg (xMpage j1.toNatClampNeg)) j1.toNatClampNeg)).toNatClampNeg (0 : Int32)) ((6 : Int32) + (xMpage j1.toNatClampNeg)).toNatClampNeg (0 : Int32)) z112 hz112) gX5_change_X5_figuresOf rfl kyX5_figuresOf rfl [1] [0, 2] [0] [0, 2, 1] rfl rfl rfl rfl (by decide) rfl rfl rfl ⟨rfl, rfl⟩ ⟨Nat.le_of_ble_eq_true rfl, Nat.le_of_ble_eq_true rfl⟩ (Nat.le_of_ble_eq_true rfl) rfl dX5_change_112 ?_
        exact hQ (z112, (0 : Int32), z50.1, (upd (upd (upd (upd xMpage j1.toNatClampNeg (xMpage (j1 + (1 : Int32)).toNatClampNeg)) (j1 + (1 : Int32)).toNatClampNeg (xMpage j1.toNatClampNeg)) ((6 : Int32) + ((upd (upd xMpage j1.toNatClampNeg (xMpage (j1 + (1 : Int32)).toNatClampNeg)) (j1 + (1 : Int32)).toNatClampNeg (xMpage j1.toNatClampNeg)) j1.toNatClampNeg)).toNatClampNeg (0 : Int32)) ((6 : Int32) + (xMpage j1.toNatClampNeg)).toNatClampNeg (0 : Int32)), z50.2) _ _ (gd_s hf) dX5_change_115
      · replace hf := gd_t hc hf
        refine g_bipush (v := (-3 : Int32)) hC dX5_change_46 cb_m3 ?_
        exact hQ ((-3 : Int32), (0 : Int32), xM_acts, xMpage, xMbook) _ _ (gd_s hf) dX5_change_48
  · replace hf := gd_t hc hf
    refine g_bipush (v := (-2 : Int32)) hC dX5_change_17 cb_m2 ?_
    exact hQ ((-2 : Int32), (0 : Int32), xM_acts, xMpage, xMbook) _ _ (gd_s hf) dX5_change_19
theorem kyX5_rest : yX5_rest.cls = RX5 ∧ yX5_rest.cls ≠ "java/lang/invoke/MethodHandle" ∧ yX5_rest.cls ≠ "java/lang/invoke/VarHandle" ∧ (parseMethodDescriptor yX5_rest.desc).map (fun d => d.parameters.length) = some 0 := by decide +kernel
set_option maxHeartbeats 4000000 in
set_option maxRecDepth 100000 in
theorem cX5_rest_m (l : Launch) (D : va_G) (aM aMtext aMnerve aMkind aMreadNerve aMreadKind aMpage aMtrial aMbook aMkept aMisKept aMtoldMinute aMtoldHeard aMworth : Nat) (iMpage iMbook : ClassId) (xM_thrown : Int32) (xM_textSize : Int32) (xM_place : Int32) (xM_walkers : Int32) (xM_light : Int32) (xM_water : Int32) (xM_readWalkers : Int32) (xM_readLight : Int32) (xM_readWater : Int32) (xM_acts : Int32) (xM_told : Int32) (xM_seed : Int64) (xM_orderBest : Int32) (xM_orderMany : Int32) (xM_turned : Int32) (xMpage : Nat → Int32) (xMbook : Nat → Int32)  (z : Int32 × Int32 × Int32 × (Nat → Int32) × (Nat → Int32)) (hf : fX5_rest xM_thrown xM_light xM_acts xMpage xMbook = some z) : ∀ sz : Nat, Met l yX5_rest wsX5_rest ({ frames := 1, cells := 0, slots := 0, locals := 21 } : Room) (kPre D [(iMpage, .int), (iMbook, .int)] [oO aM 4 [.int xM_thrown, .ref aMtext, .int xM_textSize, .int xM_place, .int xM_walkers, .int xM_light, .int xM_water, .ref aMnerve, .ref aMkind, .int xM_readWalkers, .int xM_readLight, .int xM_readWater, .ref aMreadNerve, .ref aMreadKind, .ref aMpage, .ref aMtrial, .ref aMbook, .int xM_acts, .ref aMkept, .ref aMisKept, .int xM_told, .ref aMtoldMinute, .ref aMtoldHeard, .long xM_seed, .int xM_orderBest, .int xM_orderMany, .ref aMworth, .int xM_turned], oI aMpage iMpage 13 xMpage, oI aMbook iMbook 182 xMbook] sz [.ref aM]) (kQi D [(iMpage, .int), (iMbook, .int)] [oO aM 4 [.int xM_thrown, .ref aMtext, .int xM_textSize, .int xM_place, .int xM_walkers, .int xM_light, .int xM_water, .ref aMnerve, .ref aMkind, .int xM_readWalkers, .int xM_readLight, .int xM_readWater, .ref aMreadNerve, .ref aMreadKind, .ref aMpage, .ref aMtrial, .ref aMbook, .int xM_acts, .ref aMkept, .ref aMisKept, .int xM_told, .ref aMtoldMinute, .ref aMtoldHeard, .long xM_seed, .int xM_orderBest, .int xM_orderMany, .ref aMworth, .int xM_turned], oI aMpage iMpage 13 xMpage, oI aMbook iMbook 182 xMbook] sz [oO aM 4 [.int z.2.1, .ref aMtext, .int xM_textSize, .int xM_place, .int xM_walkers, .int xM_light, .int xM_water, .ref aMnerve, .ref aMkind, .int xM_readWalkers, .int xM_readLight, .int xM_readWater, .ref aMreadNerve, .ref aMreadKind, .ref aMpage, .ref aMtrial, .ref aMbook, .int z.2.2.1, .ref aMkept, .ref aMisKept, .int xM_told, .ref aMtoldMinute, .ref aMtoldHeard, .long xM_seed, .int xM_orderBest, .int xM_orderMany, .ref aMworth, .int xM_turned], oI aMpage iMpage 13 z.2.2.2.1, oI aMbook iMbook 182 z.2.2.2.2] z.1) 0 0 (va_A [oO aM 4 [.int xM_thrown, .ref aMtext, .int xM_textSize, .int xM_place, .int xM_walkers, .int xM_light, .int xM_water, .ref aMnerve, .ref aMkind, .int xM_readWalkers, .int xM_readLight, .int xM_readWater, .ref aMreadNerve, .ref aMreadKind, .ref aMpage, .ref aMtrial, .ref aMbook, .int xM_acts, .ref aMkept, .ref aMisKept, .int xM_told, .ref aMtoldMinute, .ref aMtoldHeard, .long xM_seed, .int xM_orderBest, .int xM_orderMany, .ref aMworth, .int xM_turned], oI aMpage iMpage 13 xMpage, oI aMbook iMbook 182 xMbook] sz) := by
  refine kMet_i (own := RX5) z (fun u => u.1) (fun u => [oO aM 4 [.int u.2.1, .ref aMtext, .int xM_textSize, .int xM_place, .int xM_walkers, .int xM_light, .int xM_water, .ref aMnerve, .ref aMkind, .int xM_readWalkers, .int xM_readLight, .int xM_readWater, .ref aMreadNerve, .ref aMreadKind, .ref aMpage, .ref aMtrial, .ref aMbook, .int u.2.2.1, .ref aMkept, .ref aMisKept, .int xM_told, .ref aMtoldMinute, .ref aMtoldHeard, .long xM_seed, .int xM_orderBest, .int xM_orderMany, .ref aMworth, .int xM_turned], oI aMpage iMpage 13 u.2.2.2.1, oI aMbook iMbook 182 u.2.2.2.2]) rfl (by decide) rfl ⟨rfl, rfl⟩ (Nat.le_of_ble_eq_true rfl) ?_
  intro X hXl hXD hC hQ
  subst hXl
  subst hXD
  change kG X 0 [(0, .ref aM)] [] [oO aM 4 [.int xM_thrown, .ref aMtext, .int xM_textSize, .int xM_place, .int xM_walkers, .int xM_light, .int xM_water, .ref aMnerve, .ref aMkind, .int xM_readWalkers, .int xM_readLight, .int xM_readWater, .ref aMreadNerve, .ref aMreadKind, .ref aMpage, .ref aMtrial, .ref aMbook, .int xM_acts, .ref aMkept, .ref aMisKept, .int xM_told, .ref aMtoldMinute, .ref aMtoldHeard, .long xM_seed, .int xM_orderBest, .int xM_orderMany, .ref aMworth, .int xM_turned], oI aMpage iMpage 13 xMpage, oI aMbook iMbook 182 xMbook]
  have hinX5 : ∀ w ∈ wsX50, w ∈ wsX5_rest := fun _ h => List.mem_cons_of_mem _ (List.mem_append_right _ h)
  have t63 : ∀ (k30 : Int32 → Int32 → Int32 → Int32 → (Nat → Int32) → (Nat → Int32) → Option (Int32 × Int32 × Int32 × (Nat → Int32) × (Nat → Int32))) (hk30 : ∀ (j1 : Int32) (j2 : Int32) (xM_thrown : Int32) (xM_acts : Int32) (xMpage : Nat → Int32) (xMbook : Nat → Int32), k30 j1 j2 xM_thrown xM_acts xMpage xMbook = some z → kG X 30 [(0, .ref aM), (1, .int j1), (2, .int j2)] [] [oO aM 4 [.int xM_thrown, .ref aMtext, .int xM_textSize, .int xM_place, .int xM_walkers, .int xM_light, .int xM_water, .ref aMnerve, .ref aMkind, .int xM_readWalkers, .int xM_readLight, .int xM_readWater, .ref aMreadNerve, .ref aMreadKind, .ref aMpage, .ref aMtrial, .ref aMbook, .int xM_acts, .ref aMkept, .ref aMisKept, .int xM_told, .ref aMtoldMinute, .ref aMtoldHeard, .long xM_seed, .int xM_orderBest, .int xM_orderMany, .ref aMworth, .int xM_turned], oI aMpage iMpage 13 xMpage, oI aMbook iMbook 182 xMbook]) (j2 : Int32) (y0 : Int32) (y1 : Int32) (xM_thrown : Int32) (xM_acts : Int32) (xMpage : Nat → Int32) (xMbook : Nat → Int32), fX5_rest_b63 xM_light k30 j2 y0 y1 xM_thrown xM_acts xMpage xMbook = some z → kG X 63 [(0, .ref aM), (2, .int j2)] [.int y0, .int y1] [oO aM 4 [.int xM_thrown, .ref aMtext, .int xM_textSize, .int xM_place, .int xM_walkers, .int xM_light, .int xM_water, .ref aMnerve, .ref aMkind, .int xM_readWalkers, .int xM_readLight, .int xM_readWater, .ref aMreadNerve, .ref aMreadKind, .ref aMpage, .ref aMtrial, .ref aMbook, .int xM_acts, .ref aMkept, .ref aMisKept, .int xM_told, .ref aMtoldMinute, .ref aMtoldHeard, .long xM_seed, .int xM_orderBest, .int xM_orderMany, .ref aMworth, .int xM_turned], oI aMpage iMpage 13 xMpage, oI aMbook iMbook 182 xMbook] := by
    intro k30 hk30 j2 y0 y1 xM_thrown xM_acts xMpage xMbook hf
    unfold fX5_rest_b63 at hf
    refine g_iadd hC dX5_rest_63 ?_
    refine g_istore_n (lv' := [(1, .int (y1 + y0)), (0, .ref aM), (2, .int j2)]) hC dX5_rest_64 rfl (by decide) rfl ?_
    refine g_aload_n hC 1 dX5_rest_65 rfl rfl ?_
    refine g_get (C := RX5) (T := TX5) (N := 28) (v := .ref aMpage) hC hinX5 0 14 rfl rfl (by decide) (List.mem_of_getElem? (i := 2) rfl) rfl dX5_rest_66 ?_
    refine g_bipush (v := (6 : Int32)) hC dX5_rest_69 cb_6 ?_
    refine g_aload_n hC 1 dX5_rest_71 rfl rfl ?_
    refine g_get (C := RX5) (T := TX5) (N := 28) (v := .ref aMpage) hC hinX5 0 14 rfl rfl (by decide) (List.mem_of_getElem? (i := 2) rfl) rfl dX5_rest_72 ?_
    refine g_iload_n hC 2 dX5_rest_75 rfl rfl ?_
    obtain ⟨hg, hf⟩ := gd_ga hf
    refine g_iald hC 1 0 hg rfl rfl dX5_rest_76 ?_
    refine g_iadd hC dX5_rest_77 ?_
    refine g_iconst (v := (0 : Int32)) hC dX5_rest_78 ci_0 ?_
    obtain ⟨hg, hf⟩ := gd_ga hf
    refine g_iast (ws' := [oO aM 4 [.int xM_thrown, .ref aMtext, .int xM_textSize, .int xM_place, .int xM_walkers, .int xM_light, .int xM_water, .ref aMnerve, .ref aMkind, .int xM_readWalkers, .int xM_readLight, .int xM_readWater, .ref aMreadNerve, .ref aMreadKind, .ref aMpage, .ref aMtrial, .ref aMbook, .int xM_acts, .ref aMkept, .ref aMisKept, .int xM_told, .ref aMtoldMinute, .ref aMtoldHeard, .long xM_seed, .int xM_orderBest, .int xM_orderMany, .ref aMworth, .int xM_turned], oI aMpage iMpage 13 (upd xMpage ((6 : Int32) + (xMpage j2.toNatClampNeg)).toNatClampNeg (0 : Int32)), oI aMbook iMbook 182 xMbook]) hC 1 0 hg rfl rfl dX5_rest_79 rfl ?_
    refine g_iinc (v := (j2 + (1 : Int32))) (lv' := [(2, .int (j2 + (1 : Int32))), (1, .int (y1 + y0)), (0, .ref aM)]) hC 2 dX5_rest_80 rfl (ii _ ci_1) (by decide) rfl ?_
    refine g_goto (tgt := 30) hC dX5_rest_83 (by decide) ?_
    refine g_lv (lv' := [(0, .ref aM), (1, .int (y1 + y0)), (2, .int (j2 + (1 : Int32)))]) [2, 1, 0] rfl ?_
    exact hk30 (y1 + y0) (j2 + (1 : Int32)) xM_thrown xM_acts (upd xMpage ((6 : Int32) + (xMpage j2.toNatClampNeg)).toNatClampNeg (0 : Int32)) xMbook hf
  have t30 : ∀  (n : Nat) (j1 : Int32) (j2 : Int32) (xM_thrown : Int32) (xM_acts : Int32) (xMpage : Nat → Int32) (xMbook : Nat → Int32), lp (fun _ _ _ _ _ _ => none) (fX5_rest_b30_S xM_light ) n j1 j2 xM_thrown xM_acts xMpage xMbook = some z → kG X 30 [(0, .ref aM), (1, .int j1), (2, .int j2)] [] [oO aM 4 [.int xM_thrown, .ref aMtext, .int xM_textSize, .int xM_place, .int xM_walkers, .int xM_light, .int xM_water, .ref aMnerve, .ref aMkind, .int xM_readWalkers, .int xM_readLight, .int xM_readWater, .ref aMreadNerve, .ref aMreadKind, .ref aMpage, .ref aMtrial, .ref aMbook, .int xM_acts, .ref aMkept, .ref aMisKept, .int xM_told, .ref aMtoldMinute, .ref aMtoldHeard, .long xM_seed, .int xM_orderBest, .int xM_orderMany, .ref aMworth, .int xM_turned], oI aMpage iMpage 13 xMpage, oI aMbook iMbook 182 xMbook] := by
    intro  n
    induction n with
    | zero => intro j1 j2 xM_thrown xM_acts xMpage xMbook hf; cases hf
    | succ n hk30 =>
      intro j1 j2 xM_thrown xM_acts xMpage xMbook hf
      rw [lp_s] at hf
      revert hf hk30
      generalize lp (fun _ _ _ _ _ _ => none) (fX5_rest_b30_S xM_light ) n = k30
      intro hk30 hf
      unfold fX5_rest_b30_S at hf
      refine g_iload_n hC 2 dX5_rest_30 rfl rfl ?_
      refine g_aload_n hC 0 dX5_rest_31 rfl rfl ?_
      refine g_get (C := RX5) (T := TX5) (N := 28) (v := .ref aMpage) hC hinX5 0 14 rfl rfl (by decide) (List.mem_of_getElem? (i := 2) rfl) rfl dX5_rest_32 ?_
      refine g_iconst (v := (5 : Int32)) hC dX5_rest_35 ci_5 ?_
      obtain ⟨hg, hf⟩ := gd_ga hf
      refine g_iald hC 1 0 hg rfl rfl dX5_rest_36 ?_
      refine g_icmp_ge (tgt := 86) hC dX5_rest_37 (by decide) (fun hc => ?_) (fun hc => ?_)
      · replace hf := gd_t hc hf
        refine g_iload_n hC 1 dX5_rest_86 rfl rfl ?_
        exact hQ (j1, xM_thrown, xM_acts, xMpage, xMbook) _ _ (gd_s hf) dX5_rest_87
      · replace hf := gd_f hc hf
        refine g_iload_n hC 1 dX5_rest_40 rfl rfl ?_
        refine g_aload_n hC 0 dX5_rest_41 rfl rfl ?_
        refine g_get (C := RX5) (T := TX5) (N := 28) (v := .ref aMpage) hC hinX5 0 14 rfl rfl (by decide) (List.mem_of_getElem? (i := 2) rfl) rfl dX5_rest_42 ?_
        refine g_bipush (v := (6 : Int32)) hC dX5_rest_45 cb_6 ?_
        refine g_aload_n hC 0 dX5_rest_47 rfl rfl ?_
        refine g_get (C := RX5) (T := TX5) (N := 28) (v := .ref aMpage) hC hinX5 0 14 rfl rfl (by decide) (List.mem_of_getElem? (i := 2) rfl) rfl dX5_rest_48 ?_
        refine g_iload_n hC 2 dX5_rest_51 rfl rfl ?_
        obtain ⟨hg, hf⟩ := gd_ga hf
        refine g_iald hC 1 0 hg rfl rfl dX5_rest_52 ?_
        refine g_iadd hC dX5_rest_53 ?_
        obtain ⟨hg, hf⟩ := gd_ga hf
        refine g_iald hC 1 0 hg rfl rfl dX5_rest_54 ?_
        refine g_if_le (tgt := 62) hC dX5_rest_55 (by decide) (fun hc => ?_) (fun hc => ?_)
        · replace hf := gd_t hc hf
          refine g_iconst (v := (0 : Int32)) hC dX5_rest_62 ci_0 ?_
          refine g_lv (lv' := [(0, .ref aM), (2, .int j2)]) [0, 2] rfl ?_
          exact t63 k30 hk30 j2 (0 : Int32) j1 xM_thrown xM_acts xMpage xMbook hf
        · replace hf := gd_f hc hf
          refine g_iconst (v := (1 : Int32)) hC dX5_rest_58 ci_1 ?_
          refine g_goto (tgt := 63) hC dX5_rest_59 (by decide) ?_
          refine g_lv (lv' := [(0, .ref aM), (2, .int j2)]) [0, 2] rfl ?_
          exact t63 k30 hk30 j2 (1 : Int32) j1 xM_thrown xM_acts xMpage xMbook hf
  unfold fX5_rest at hf
  refine g_aload_n hC 0 dX5_rest_0 rfl rfl ?_
  refine g_iconst (v := (0 : Int32)) hC dX5_rest_1 ci_0 ?_
  refine g_put (C := RX5) (T := TX5) (N := 28) (ty := .int) (ws' := [oO aM 4 [.int (0 : Int32), .ref aMtext, .int xM_textSize, .int xM_place, .int xM_walkers, .int xM_light, .int xM_water, .ref aMnerve, .ref aMkind, .int xM_readWalkers, .int xM_readLight, .int xM_readWater, .ref aMreadNerve, .ref aMreadKind, .ref aMpage, .ref aMtrial, .ref aMbook, .int xM_acts, .ref aMkept, .ref aMisKept, .int xM_told, .ref aMtoldMinute, .ref aMtoldHeard, .long xM_seed, .int xM_orderBest, .int xM_orderMany, .ref aMworth, .int xM_turned], oI aMpage iMpage 13 xMpage, oI aMbook iMbook 182 xMbook]) hC tyX5_ok nmX5 hinX5 0 0 rfl rfl (by decide) (List.mem_of_getElem? (i := 1) rfl) rfl rfl rfl rfl (Nat.le_of_ble_eq_true rfl) dX5_rest_2 rfl ?_
  refine g_aload_n hC 0 dX5_rest_5 rfl rfl ?_
  refine g_get (C := RX5) (T := TX5) (N := 28) (v := .ref aMpage) hC hinX5 0 14 rfl rfl (by decide) (List.mem_of_getElem? (i := 2) rfl) rfl dX5_rest_6 ?_
  refine g_bipush (v := (11 : Int32)) hC dX5_rest_9 cb_11 ?_
  obtain ⟨hg, hf⟩ := gd_ga hf
  refine g_iald hC 1 0 hg rfl rfl dX5_rest_11 ?_
  refine g_aload_n hC 0 dX5_rest_12 rfl rfl ?_
  refine g_get (C := RX5) (T := TX5) (N := 28) (v := .int xM_light) hC hinX5 0 5 rfl rfl (by decide) (List.mem_of_getElem? (i := 3) rfl) rfl dX5_rest_13 ?_
  refine g_icmp_ne (tgt := 22) hC dX5_rest_16 (by decide) (fun hc => ?_) (fun hc => ?_)
  · replace hf := gd_f hc hf
    refine g_aload_n hC 0 dX5_rest_22 rfl rfl ?_
    obtain ⟨z23, hz23, hf⟩ := gd_b hf
    refine g_callVv (wr := []) (wn := [oO aM 4 [.int (0 : Int32), .ref aMtext, .int xM_textSize, .int xM_place, .int xM_walkers, .int xM_light, .int xM_water, .ref aMnerve, .ref aMkind, .int xM_readWalkers, .int xM_readLight, .int xM_readWater, .ref aMreadNerve, .ref aMreadKind, .ref aMpage, .ref aMtrial, .ref aMbook, .int z23.1, .ref aMkept, .ref aMisKept, .int xM_told, .ref aMtoldMinute, .ref aMtoldHeard, .long xM_seed, .int xM_orderBest, .int xM_orderMany, .ref aMworth, .int xM_turned], oI aMpage iMpage 13 xMpage, oI aMbook iMbook 182 z23.2]) hC [] (cX5_note_m (kl X) (kD X) aM aMtext aMnerve aMkind aMreadNerve aMreadKind aMpage aMtrial aMbook aMkept aMisKept aMtoldMinute aMtoldHeard aMworth iMpage iMbook (0 : Int32) xM_textSize xM_place xM_walkers xM_light xM_water xM_readWalkers xM_readLight xM_readWater xM_acts xM_told xM_seed xM_orderBest xM_orderMany xM_turned xMpage xMbook z23 hz23) gX5_rest_X5_note rfl kyX5_note rfl rfl rfl (q0 := 0) rfl [0, 1, 2] [] [0, 1] [0, 1, 2] rfl rfl rfl rfl (by decide) rfl rfl rfl ⟨rfl, rfl⟩ ⟨Nat.le_of_ble_eq_true rfl, Nat.le_of_ble_eq_true rfl⟩ (Nat.le_of_ble_eq_true rfl) rfl dX5_rest_23 ?_
    refine g_iconst (v := (0 : Int32)) hC dX5_rest_26 ci_0 ?_
    refine g_istore_n (lv' := [(1, .int (0 : Int32)), (0, .ref aM)]) hC dX5_rest_27 rfl (by decide) rfl ?_
    refine g_iconst (v := (0 : Int32)) hC dX5_rest_28 ci_0 ?_
    refine g_istore_n (lv' := [(2, .int (0 : Int32)), (1, .int (0 : Int32)), (0, .ref aM)]) hC dX5_rest_29 rfl (by decide) rfl ?_
    refine g_lv (lv' := [(0, .ref aM), (1, .int (0 : Int32)), (2, .int (0 : Int32))]) [2, 1, 0] rfl ?_
    exact t30  fu (0 : Int32) (0 : Int32) (0 : Int32) z23.1 xMpage z23.2 hf
  · replace hf := gd_t hc hf
    refine g_bipush (v := (-3 : Int32)) hC dX5_rest_19 cb_m3 ?_
    exact hQ ((-3 : Int32), (0 : Int32), xM_acts, xMpage, xMbook) _ _ (gd_s hf) dX5_rest_21
theorem kyX5_undo : yX5_undo.cls = RX5 ∧ yX5_undo.cls ≠ "java/lang/invoke/MethodHandle" ∧ yX5_undo.cls ≠ "java/lang/invoke/VarHandle" ∧ (parseMethodDescriptor yX5_undo.desc).map (fun d => d.parameters.length) = some 0 := by decide +kernel
set_option maxHeartbeats 4000000 in
set_option maxRecDepth 100000 in
theorem cX5_undo_m (l : Launch) (D : va_G) (aM aMtext aMnerve aMkind aMreadNerve aMreadKind aMpage aMtrial aMbook aMkept aMisKept aMtoldMinute aMtoldHeard aMworth : Nat) (iMpage iMbook : ClassId) (xM_thrown : Int32) (xM_textSize : Int32) (xM_place : Int32) (xM_walkers : Int32) (xM_light : Int32) (xM_water : Int32) (xM_readWalkers : Int32) (xM_readLight : Int32) (xM_readWater : Int32) (xM_acts : Int32) (xM_told : Int32) (xM_seed : Int64) (xM_orderBest : Int32) (xM_orderMany : Int32) (xM_turned : Int32) (xMpage : Nat → Int32) (xMbook : Nat → Int32)  (z : Int32 × Int32 × Int32 × (Nat → Int32)) (hf : fX5_undo xM_thrown xM_acts xMpage xMbook = some z) : ∀ sz : Nat, Met l yX5_undo wsX5_undo ({ frames := 0, cells := 0, slots := 0, locals := 0 } : Room) (kPre D [(iMpage, .int), (iMbook, .int)] [oO aM 4 [.int xM_thrown, .ref aMtext, .int xM_textSize, .int xM_place, .int xM_walkers, .int xM_light, .int xM_water, .ref aMnerve, .ref aMkind, .int xM_readWalkers, .int xM_readLight, .int xM_readWater, .ref aMreadNerve, .ref aMreadKind, .ref aMpage, .ref aMtrial, .ref aMbook, .int xM_acts, .ref aMkept, .ref aMisKept, .int xM_told, .ref aMtoldMinute, .ref aMtoldHeard, .long xM_seed, .int xM_orderBest, .int xM_orderMany, .ref aMworth, .int xM_turned], oI aMpage iMpage 13 xMpage, oI aMbook iMbook 182 xMbook] sz [.ref aM]) (kQi D [(iMpage, .int), (iMbook, .int)] [oO aM 4 [.int xM_thrown, .ref aMtext, .int xM_textSize, .int xM_place, .int xM_walkers, .int xM_light, .int xM_water, .ref aMnerve, .ref aMkind, .int xM_readWalkers, .int xM_readLight, .int xM_readWater, .ref aMreadNerve, .ref aMreadKind, .ref aMpage, .ref aMtrial, .ref aMbook, .int xM_acts, .ref aMkept, .ref aMisKept, .int xM_told, .ref aMtoldMinute, .ref aMtoldHeard, .long xM_seed, .int xM_orderBest, .int xM_orderMany, .ref aMworth, .int xM_turned], oI aMpage iMpage 13 xMpage, oI aMbook iMbook 182 xMbook] sz [oO aM 4 [.int z.2.1, .ref aMtext, .int xM_textSize, .int xM_place, .int xM_walkers, .int xM_light, .int xM_water, .ref aMnerve, .ref aMkind, .int xM_readWalkers, .int xM_readLight, .int xM_readWater, .ref aMreadNerve, .ref aMreadKind, .ref aMpage, .ref aMtrial, .ref aMbook, .int z.2.2.1, .ref aMkept, .ref aMisKept, .int xM_told, .ref aMtoldMinute, .ref aMtoldHeard, .long xM_seed, .int xM_orderBest, .int xM_orderMany, .ref aMworth, .int xM_turned], oI aMpage iMpage 13 z.2.2.2, oI aMbook iMbook 182 xMbook] z.1) 0 0 (va_A [oO aM 4 [.int xM_thrown, .ref aMtext, .int xM_textSize, .int xM_place, .int xM_walkers, .int xM_light, .int xM_water, .ref aMnerve, .ref aMkind, .int xM_readWalkers, .int xM_readLight, .int xM_readWater, .ref aMreadNerve, .ref aMreadKind, .ref aMpage, .ref aMtrial, .ref aMbook, .int xM_acts, .ref aMkept, .ref aMisKept, .int xM_told, .ref aMtoldMinute, .ref aMtoldHeard, .long xM_seed, .int xM_orderBest, .int xM_orderMany, .ref aMworth, .int xM_turned], oI aMpage iMpage 13 xMpage, oI aMbook iMbook 182 xMbook] sz) := by
  refine kMet_i (own := RX5) z (fun u => u.1) (fun u => [oO aM 4 [.int u.2.1, .ref aMtext, .int xM_textSize, .int xM_place, .int xM_walkers, .int xM_light, .int xM_water, .ref aMnerve, .ref aMkind, .int xM_readWalkers, .int xM_readLight, .int xM_readWater, .ref aMreadNerve, .ref aMreadKind, .ref aMpage, .ref aMtrial, .ref aMbook, .int u.2.2.1, .ref aMkept, .ref aMisKept, .int xM_told, .ref aMtoldMinute, .ref aMtoldHeard, .long xM_seed, .int xM_orderBest, .int xM_orderMany, .ref aMworth, .int xM_turned], oI aMpage iMpage 13 u.2.2.2, oI aMbook iMbook 182 xMbook]) rfl (by decide) rfl ⟨rfl, rfl⟩ (Nat.le_of_ble_eq_true rfl) ?_
  intro X hXl hXD hC hQ
  subst hXl
  subst hXD
  change kG X 0 [(0, .ref aM)] [] [oO aM 4 [.int xM_thrown, .ref aMtext, .int xM_textSize, .int xM_place, .int xM_walkers, .int xM_light, .int xM_water, .ref aMnerve, .ref aMkind, .int xM_readWalkers, .int xM_readLight, .int xM_readWater, .ref aMreadNerve, .ref aMreadKind, .ref aMpage, .ref aMtrial, .ref aMbook, .int xM_acts, .ref aMkept, .ref aMisKept, .int xM_told, .ref aMtoldMinute, .ref aMtoldHeard, .long xM_seed, .int xM_orderBest, .int xM_orderMany, .ref aMworth, .int xM_turned], oI aMpage iMpage 13 xMpage, oI aMbook iMbook 182 xMbook]
  have hinX5 : ∀ w ∈ wsX50, w ∈ wsX5_undo := fun _ h => List.mem_cons_of_mem _ (List.mem_append_right _ h)
  have t27 : ∀  (n : Nat) (j1 : Int32) (xM_thrown : Int32) (xM_acts : Int32) (xMpage : Nat → Int32), lp (fun _ _ _ _ => none) (fX5_undo_b27_S xMbook ) n j1 xM_thrown xM_acts xMpage = some z → kG X 27 [(0, .ref aM), (1, .int j1)] [] [oO aM 4 [.int xM_thrown, .ref aMtext, .int xM_textSize, .int xM_place, .int xM_walkers, .int xM_light, .int xM_water, .ref aMnerve, .ref aMkind, .int xM_readWalkers, .int xM_readLight, .int xM_readWater, .ref aMreadNerve, .ref aMreadKind, .ref aMpage, .ref aMtrial, .ref aMbook, .int xM_acts, .ref aMkept, .ref aMisKept, .int xM_told, .ref aMtoldMinute, .ref aMtoldHeard, .long xM_seed, .int xM_orderBest, .int xM_orderMany, .ref aMworth, .int xM_turned], oI aMpage iMpage 13 xMpage, oI aMbook iMbook 182 xMbook] := by
    intro  n
    induction n with
    | zero => intro j1 xM_thrown xM_acts xMpage hf; cases hf
    | succ n hk27 =>
      intro j1 xM_thrown xM_acts xMpage hf
      rw [lp_s] at hf
      revert hf hk27
      generalize lp (fun _ _ _ _ => none) (fX5_undo_b27_S xMbook ) n = k27
      intro hk27 hf
      unfold fX5_undo_b27_S at hf
      refine g_iload_n hC 1 dX5_undo_27 rfl rfl ?_
      refine g_bipush (v := (13 : Int32)) hC dX5_undo_28 cb_13 ?_
      refine g_icmp_ge (tgt := 59) hC dX5_undo_30 (by decide) (fun hc => ?_) (fun hc => ?_)
      · replace hf := gd_t hc hf
        refine g_aload_n hC 0 dX5_undo_59 rfl rfl ?_
        refine g_get (C := RX5) (T := TX5) (N := 28) (v := .int xM_acts) hC hinX5 0 17 rfl rfl (by decide) (List.mem_of_getElem? (i := 2) rfl) rfl dX5_undo_60 ?_
        exact hQ (xM_acts, xM_thrown, xM_acts, xMpage) _ _ (gd_s hf) dX5_undo_63
      · replace hf := gd_f hc hf
        refine g_aload_n hC 0 dX5_undo_33 rfl rfl ?_
        refine g_get (C := RX5) (T := TX5) (N := 28) (v := .ref aMpage) hC hinX5 0 14 rfl rfl (by decide) (List.mem_of_getElem? (i := 3) rfl) rfl dX5_undo_34 ?_
        refine g_iload_n hC 1 dX5_undo_37 rfl rfl ?_
        refine g_aload_n hC 0 dX5_undo_38 rfl rfl ?_
        refine g_get (C := RX5) (T := TX5) (N := 28) (v := .ref aMbook) hC hinX5 0 16 rfl rfl (by decide) (List.mem_of_getElem? (i := 4) rfl) rfl dX5_undo_39 ?_
        refine g_bipush (v := (13 : Int32)) hC dX5_undo_42 cb_13 ?_
        refine g_aload_n hC 0 dX5_undo_44 rfl rfl ?_
        refine g_get (C := RX5) (T := TX5) (N := 28) (v := .int xM_acts) hC hinX5 0 17 rfl rfl (by decide) (List.mem_of_getElem? (i := 2) rfl) rfl dX5_undo_45 ?_
        refine g_imul hC dX5_undo_48 ?_
        refine g_iload_n hC 1 dX5_undo_49 rfl rfl ?_
        refine g_iadd hC dX5_undo_50 ?_
        obtain ⟨hg, hf⟩ := gd_ga hf
        refine g_iald hC 2 1 hg rfl rfl dX5_undo_51 ?_
        obtain ⟨hg, hf⟩ := gd_ga hf
        refine g_iast (ws' := [oO aM 4 [.int xM_thrown, .ref aMtext, .int xM_textSize, .int xM_place, .int xM_walkers, .int xM_light, .int xM_water, .ref aMnerve, .ref aMkind, .int xM_readWalkers, .int xM_readLight, .int xM_readWater, .ref aMreadNerve, .ref aMreadKind, .ref aMpage, .ref aMtrial, .ref aMbook, .int xM_acts, .ref aMkept, .ref aMisKept, .int xM_told, .ref aMtoldMinute, .ref aMtoldHeard, .long xM_seed, .int xM_orderBest, .int xM_orderMany, .ref aMworth, .int xM_turned], oI aMpage iMpage 13 (upd xMpage j1.toNatClampNeg (xMbook (((13 : Int32) * xM_acts) + j1).toNatClampNeg)), oI aMbook iMbook 182 xMbook]) hC 1 0 hg rfl rfl dX5_undo_52 rfl ?_
        refine g_iinc (v := (j1 + (1 : Int32))) (lv' := [(1, .int (j1 + (1 : Int32))), (0, .ref aM)]) hC 1 dX5_undo_53 rfl (ii _ ci_1) (by decide) rfl ?_
        refine g_goto (tgt := 27) hC dX5_undo_56 (by decide) ?_
        refine g_lv (lv' := [(0, .ref aM), (1, .int (j1 + (1 : Int32)))]) [1, 0] rfl ?_
        exact hk27 (j1 + (1 : Int32)) xM_thrown xM_acts (upd xMpage j1.toNatClampNeg (xMbook (((13 : Int32) * xM_acts) + j1).toNatClampNeg)) hf
  unfold fX5_undo at hf
  refine g_aload_n hC 0 dX5_undo_0 rfl rfl ?_
  refine g_iconst (v := (0 : Int32)) hC dX5_undo_1 ci_0 ?_
  refine g_put (C := RX5) (T := TX5) (N := 28) (ty := .int) (ws' := [oO aM 4 [.int (0 : Int32), .ref aMtext, .int xM_textSize, .int xM_place, .int xM_walkers, .int xM_light, .int xM_water, .ref aMnerve, .ref aMkind, .int xM_readWalkers, .int xM_readLight, .int xM_readWater, .ref aMreadNerve, .ref aMreadKind, .ref aMpage, .ref aMtrial, .ref aMbook, .int xM_acts, .ref aMkept, .ref aMisKept, .int xM_told, .ref aMtoldMinute, .ref aMtoldHeard, .long xM_seed, .int xM_orderBest, .int xM_orderMany, .ref aMworth, .int xM_turned], oI aMpage iMpage 13 xMpage, oI aMbook iMbook 182 xMbook]) hC tyX5_ok nmX5 hinX5 0 0 rfl rfl (by decide) (List.mem_of_getElem? (i := 1) rfl) rfl rfl rfl rfl (Nat.le_of_ble_eq_true rfl) dX5_undo_2 rfl ?_
  refine g_aload_n hC 0 dX5_undo_5 rfl rfl ?_
  refine g_get (C := RX5) (T := TX5) (N := 28) (v := .int xM_acts) hC hinX5 0 17 rfl rfl (by decide) (List.mem_of_getElem? (i := 2) rfl) rfl dX5_undo_6 ?_
  refine g_if_ne (tgt := 15) hC dX5_undo_9 (by decide) (fun hc => ?_) (fun hc => ?_)
  · replace hf := gd_f hc hf
    refine g_aload_n hC 0 dX5_undo_15 rfl rfl ?_
    refine g_dup hC dX5_undo_16 rfl ?_
    refine g_get (C := RX5) (T := TX5) (N := 28) (v := .int xM_acts) hC hinX5 0 17 rfl rfl (by decide) (List.mem_of_getElem? (i := 2) rfl) rfl dX5_undo_17 ?_
    refine g_iconst (v := (1 : Int32)) hC dX5_undo_20 ci_1 ?_
    refine g_isub hC dX5_undo_21 ?_
    refine g_put (C := RX5) (T := TX5) (N := 28) (ty := .int) (ws' := [oO aM 4 [.int (0 : Int32), .ref aMtext, .int xM_textSize, .int xM_place, .int xM_walkers, .int xM_light, .int xM_water, .ref aMnerve, .ref aMkind, .int xM_readWalkers, .int xM_readLight, .int xM_readWater, .ref aMreadNerve, .ref aMreadKind, .ref aMpage, .ref aMtrial, .ref aMbook, .int (xM_acts - (1 : Int32)), .ref aMkept, .ref aMisKept, .int xM_told, .ref aMtoldMinute, .ref aMtoldHeard, .long xM_seed, .int xM_orderBest, .int xM_orderMany, .ref aMworth, .int xM_turned], oI aMpage iMpage 13 xMpage, oI aMbook iMbook 182 xMbook]) hC tyX5_ok nmX5 hinX5 0 17 rfl rfl (by decide) (List.mem_of_getElem? (i := 2) rfl) rfl rfl rfl rfl (Nat.le_of_ble_eq_true rfl) dX5_undo_22 rfl ?_
    refine g_iconst (v := (0 : Int32)) hC dX5_undo_25 ci_0 ?_
    refine g_istore_n (lv' := [(1, .int (0 : Int32)), (0, .ref aM)]) hC dX5_undo_26 rfl (by decide) rfl ?_
    refine g_lv (lv' := [(0, .ref aM), (1, .int (0 : Int32))]) [1, 0] rfl ?_
    exact t27  fu (0 : Int32) (0 : Int32) (xM_acts - (1 : Int32)) xMpage hf
  · replace hf := gd_t hc hf
    refine g_bipush (v := (-3 : Int32)) hC dX5_undo_12 cb_m3 ?_
    exact hQ ((-3 : Int32), (0 : Int32), xM_acts, xMpage) _ _ (gd_s hf) dX5_undo_14
theorem kyX5_hundred : yX5_hundred.cls ≠ "java/lang/invoke/MethodHandle" ∧ yX5_hundred.cls ≠ "java/lang/invoke/VarHandle" ∧ (parseMethodDescriptor yX5_hundred.desc).map (fun d => d.parameters.length) = some 1 := by decide +kernel
set_option maxHeartbeats 4000000 in
set_option maxRecDepth 100000 in
theorem cX5_hundred_m (l : Launch) (D : va_G)  (j0 : Int32) (z : Int64) (hf : fX5_hundred j0 = some z) : ∀ sz : Nat, Met l yX5_hundred wsX5_hundred ({ frames := 0, cells := 0, slots := 0, locals := 0 } : Room) (kPre D [] [] sz [.int j0]) (kQl D [] [] sz [] z) 0 0 (va_A [] sz) := by
  refine kMet_l (own := RX5) z (fun u => u) (fun u => []) rfl (by decide) rfl ⟨rfl, rfl⟩ (Nat.le_of_ble_eq_true rfl) ?_
  intro X hXl hXD hC hQ
  subst hXl
  subst hXD
  change kG X 0 [(0, .int j0)] [] []
  have t4 : ∀  (n : Nat) (j0 : Int32) (j1 : Int64) (j3 : Int32), lp (fun _ _ _ => none) (fX5_hundred_b4_S ) n j0 j1 j3 = some z → kG X 4 [(0, .int j0), (1, .long j1), (3, .int j3)] [] [] := by
    intro  n
    induction n with
    | zero => intro j0 j1 j3 hf; cases hf
    | succ n hk4 =>
      intro j0 j1 j3 hf
      rw [lp_s] at hf
      revert hf hk4
      generalize lp (fun _ _ _ => none) (fX5_hundred_b4_S ) n = k4
      intro hk4 hf
      unfold fX5_hundred_b4_S at hf
      refine g_iload_n hC 2 dX5_hundred_4 rfl rfl ?_
      refine g_iload_n hC 0 dX5_hundred_5 rfl rfl ?_
      refine g_icmp_ge (tgt := 21) hC dX5_hundred_6 (by decide) (fun hc => ?_) (fun hc => ?_)
      · replace hf := gd_t hc hf
        refine g_lload_n hC 1 dX5_hundred_21 rfl rfl ?_
        exact hQ (j1) _ _ (gd_s hf) dX5_hundred_22
      · replace hf := gd_f hc hf
        refine g_lload_n hC 1 dX5_hundred_9 rfl rfl ?_
        refine g_ldc2 (v := (100 : Int64)) hC dX5_hundred_10 (List.mem_of_getElem? (i := 1) rfl) ?_
        refine g_lmul hC dX5_hundred_13 ?_
        refine g_lstore_n (lv' := [(1, .long (j1 * (100 : Int64))), (0, .int j0), (3, .int j3)]) hC dX5_hundred_14 rfl (by decide) rfl ?_
        refine g_iinc (v := (j3 + (1 : Int32))) (lv' := [(3, .int (j3 + (1 : Int32))), (1, .long (j1 * (100 : Int64))), (0, .int j0)]) hC 2 dX5_hundred_15 rfl (ii _ ci_1) (by decide) rfl ?_
        refine g_goto (tgt := 4) hC dX5_hundred_18 (by decide) ?_
        refine g_lv (lv' := [(0, .int j0), (1, .long (j1 * (100 : Int64))), (3, .int (j3 + (1 : Int32)))]) [2, 1, 0] rfl ?_
        exact hk4 j0 (j1 * (100 : Int64)) (j3 + (1 : Int32)) hf
  unfold fX5_hundred at hf
  refine g_lconst (v := (1 : Int64)) hC dX5_hundred_0 rfl ?_
  refine g_lstore_n (lv' := [(1, .long (1 : Int64)), (0, .int j0)]) hC dX5_hundred_1 rfl (by decide) rfl ?_
  refine g_iconst (v := (0 : Int32)) hC dX5_hundred_2 ci_0 ?_
  refine g_istore_n (lv' := [(3, .int (0 : Int32)), (1, .long (1 : Int64)), (0, .int j0)]) hC dX5_hundred_3 rfl (by decide) rfl ?_
  refine g_lv (lv' := [(0, .int j0), (1, .long (1 : Int64)), (3, .int (0 : Int32))]) [2, 1, 0] rfl ?_
  exact t4  fu j0 (1 : Int64) (0 : Int32) hf
theorem kyX5_treadsOf : yX5_treadsOf.cls ≠ "java/lang/invoke/MethodHandle" ∧ yX5_treadsOf.cls ≠ "java/lang/invoke/VarHandle" ∧ (parseMethodDescriptor yX5_treadsOf.desc).map (fun d => d.parameters.length) = some 3 := by decide +kernel
set_option maxHeartbeats 4000000 in
set_option maxRecDepth 100000 in
theorem cX5_treadsOf_m (l : Launch) (D : va_G)  (j0 : Int32) (j1 : Int64) (j3 : Int32) (z : Int32) (hf : fX5_treadsOf j0 j1 j3 = some z) : ∀ sz : Nat, Met l yX5_treadsOf wsX5_treadsOf ({ frames := 1, cells := 0, slots := 0, locals := 23 } : Room) (kPre D [] [] sz [.int j0, .long j1, .int j3]) (kQi D [] [] sz [] z) 0 0 (va_A [] sz) := by
  refine kMet_i (own := RX5) z (fun u => u) (fun u => []) rfl (by decide) rfl ⟨rfl, rfl⟩ (Nat.le_of_ble_eq_true rfl) ?_
  intro X hXl hXD hC hQ
  subst hXl
  subst hXD
  change kG X 0 [(0, .int j0), (1, .long j1), (3, .int j3)] [] []
  unfold fX5_treadsOf at hf
  refine g_lload_n hC 1 dX5_treadsOf_0 rfl rfl ?_
  refine g_iload_n hC 0 dX5_treadsOf_1 rfl rfl ?_
  refine g_iconst (v := (1 : Int32)) hC dX5_treadsOf_2 ci_1 ?_
  refine g_isub hC dX5_treadsOf_3 ?_
  refine g_iload_n hC 2 dX5_treadsOf_4 rfl rfl ?_
  refine g_isub hC dX5_treadsOf_5 ?_
  obtain ⟨z6, hz6, hf⟩ := gd_b hf
  refine g_callSl (wr := []) (wn := []) hC [.int ((j0 - (1 : Int32)) - j3)] (cX5_hundred_m (kl X) (kD X) ((j0 - (1 : Int32)) - j3) z6 hz6) gX5_treadsOf_X5_hundred rfl kyX5_hundred rfl [] [] [] [] rfl rfl rfl rfl (by decide) rfl rfl rfl ⟨rfl, rfl⟩ ⟨Nat.le_of_ble_eq_true rfl, Nat.le_of_ble_eq_true rfl⟩ (Nat.le_of_ble_eq_true rfl) rfl dX5_treadsOf_6 ?_
  obtain ⟨hg, hf⟩ := gd_ga hf
  refine g_ldiv hC dX5_treadsOf_9 hg ?_
  refine g_ldc2 (v := (100 : Int64)) hC dX5_treadsOf_10 (List.mem_of_getElem? (i := 1) rfl) ?_
  refine g_lrem hC dX5_treadsOf_13 (by decide) ?_
  refine g_l2i hC dX5_treadsOf_14 ?_
  exact hQ (((j1 / z6) - (j1 / z6) / (100 : Int64) * (100 : Int64)).toInt32) _ _ (gd_s hf) dX5_treadsOf_15
theorem kyX5_noSong : yX5_noSong.cls ≠ "java/lang/invoke/MethodHandle" ∧ yX5_noSong.cls ≠ "java/lang/invoke/VarHandle" ∧ (parseMethodDescriptor yX5_noSong.desc).map (fun d => d.parameters.length) = some 2 := by decide +kernel
set_option maxHeartbeats 4000000 in
set_option maxRecDepth 100000 in
theorem cX5_noSong_m (l : Launch) (D : va_G)  (j0 : Int32) (j1 : Int64) (z : Int32) (hf : fX5_noSong j0 j1 = some z) : ∀ sz : Nat, Met l yX5_noSong wsX5_noSong ({ frames := 2, cells := 0, slots := 0, locals := 46 } : Room) (kPre D [] [] sz [.int j0, .long j1]) (kQi D [] [] sz [] z) 0 0 (va_A [] sz) := by
  refine kMet_z (own := RX5) z (fun u => u) (fun u => []) rfl (by decide) rfl ⟨rfl, rfl⟩ (Nat.le_of_ble_eq_true rfl) ?_
  intro X hXl hXD hC hQ
  subst hXl
  subst hXD
  change kG X 0 [(0, .int j0), (1, .long j1)] [] []
  have t60 : ∀ (k33 : Int32 → Int64 → Int32 → Int32 → Option (Int32)) (hk33 : ∀ (j0 : Int32) (j1 : Int64) (j3 : Int32) (j4 : Int32), k33 j0 j1 j3 j4 = some z → kG X 33 [(0, .int j0), (1, .long j1), (3, .int j3), (4, .int j4)] [] []) (j0 : Int32) (j1 : Int64) (j4 : Int32) (y0 : Int32), fX5_noSong_b60 k33 j0 j1 j4 y0 = some z → kG X 60 [(0, .int j0), (1, .long j1), (4, .int j4)] [.int y0] [] := by
    intro k33 hk33 j0 j1 j4 y0 hf
    unfold fX5_noSong_b60 at hf
    refine g_istore_n (lv' := [(3, .int y0), (0, .int j0), (1, .long j1), (4, .int j4)]) hC dX5_noSong_60 rfl (by decide) rfl ?_
    refine g_iinc (v := (j4 + (1 : Int32))) (lv' := [(4, .int (j4 + (1 : Int32))), (3, .int y0), (0, .int j0), (1, .long j1)]) hC 3 dX5_noSong_61 rfl (ii _ ci_1) (by decide) rfl ?_
    refine g_goto (tgt := 33) hC dX5_noSong_64 (by decide) ?_
    refine g_lv (lv' := [(0, .int j0), (1, .long j1), (3, .int y0), (4, .int (j4 + (1 : Int32)))]) [2, 3, 1, 0] rfl ?_
    exact hk33 j0 j1 y0 (j4 + (1 : Int32)) hf
  have t59 : ∀ (k33 : Int32 → Int64 → Int32 → Int32 → Option (Int32)) (hk33 : ∀ (j0 : Int32) (j1 : Int64) (j3 : Int32) (j4 : Int32), k33 j0 j1 j3 j4 = some z → kG X 33 [(0, .int j0), (1, .long j1), (3, .int j3), (4, .int j4)] [] []) (j0 : Int32) (j1 : Int64) (j4 : Int32), fX5_noSong_b59 k33 j0 j1 j4 = some z → kG X 59 [(0, .int j0), (1, .long j1), (4, .int j4)] [] [] := by
    intro k33 hk33 j0 j1 j4 hf
    unfold fX5_noSong_b59 at hf
    refine g_iconst (v := (0 : Int32)) hC dX5_noSong_59 ci_0 ?_
    exact t60 k33 hk33 j0 j1 j4 (0 : Int32) hf
  have t33 : ∀  (n : Nat) (j0 : Int32) (j1 : Int64) (j3 : Int32) (j4 : Int32), lp (fun _ _ _ _ => none) (fX5_noSong_b33_S ) n j0 j1 j3 j4 = some z → kG X 33 [(0, .int j0), (1, .long j1), (3, .int j3), (4, .int j4)] [] [] := by
    intro  n
    induction n with
    | zero => intro j0 j1 j3 j4 hf; cases hf
    | succ n hk33 =>
      intro j0 j1 j3 j4 hf
      rw [lp_s] at hf
      revert hf hk33
      generalize lp (fun _ _ _ _ => none) (fX5_noSong_b33_S ) n = k33
      intro hk33 hf
      unfold fX5_noSong_b33_S at hf
      refine g_iload hC 3 dX5_noSong_33 rfl ?_
      refine g_iload_n hC 0 dX5_noSong_35 rfl rfl ?_
      refine g_icmp_ge (tgt := 67) hC dX5_noSong_36 (by decide) (fun hc => ?_) (fun hc => ?_)
      · replace hf := gd_t hc hf
        refine g_iload_n hC 2 dX5_noSong_67 rfl rfl ?_
        refine g_if_ne (tgt := 75) hC dX5_noSong_68 (by decide) (fun hc => ?_) (fun hc => ?_)
        · replace hf := gd_f hc hf
          refine g_iconst (v := (0 : Int32)) hC dX5_noSong_75 ci_0 ?_
          exact hQ ((0 : Int32)) _ _ (gd_s hf) (nz_of (Or.inl rfl)) dX5_noSong_76
        · replace hf := gd_t hc hf
          refine g_iconst (v := (1 : Int32)) hC dX5_noSong_71 ci_1 ?_
          refine g_goto (tgt := 76) hC dX5_noSong_72 (by decide) ?_
          exact hQ ((1 : Int32)) _ _ (gd_s hf) (nz_of (Or.inr rfl)) dX5_noSong_76
      · replace hf := gd_f hc hf
        refine g_iload_n hC 2 dX5_noSong_39 rfl rfl ?_
        refine g_if_eq (tgt := 59) hC dX5_noSong_40 (by decide) (fun hc => ?_) (fun hc => ?_)
        · replace hf := gd_t hc hf
          refine g_lv (lv' := [(0, .int j0), (1, .long j1), (4, .int j4)]) [0, 1, 3] rfl ?_
          exact t59 k33 hk33 j0 j1 j4 hf
        · replace hf := gd_f hc hf
          refine g_iload_n hC 0 dX5_noSong_43 rfl rfl ?_
          refine g_lload_n hC 1 dX5_noSong_44 rfl rfl ?_
          refine g_iload hC 3 dX5_noSong_45 rfl ?_
          obtain ⟨z47, hz47, hf⟩ := gd_b hf
          refine g_callSi (wr := []) (wn := []) hC [.int j0, .long j1, .int j4] (cX5_treadsOf_m (kl X) (kD X) j0 j1 j4 z47 hz47) gX5_noSong_X5_treadsOf rfl kyX5_treadsOf rfl [] [] [] [] rfl rfl rfl rfl (by decide) rfl rfl rfl ⟨rfl, rfl⟩ ⟨Nat.le_of_ble_eq_true rfl, Nat.le_of_ble_eq_true rfl⟩ (Nat.le_of_ble_eq_true rfl) rfl dX5_noSong_47 ?_
          refine g_bipush (v := (31 : Int32)) hC dX5_noSong_50 cb_31 ?_
          refine g_icmp_gt (tgt := 59) hC dX5_noSong_52 (by decide) (fun hc => ?_) (fun hc => ?_)
          · replace hf := gd_t hc hf
            refine g_lv (lv' := [(0, .int j0), (1, .long j1), (4, .int j4)]) [0, 1, 3] rfl ?_
            exact t59 k33 hk33 j0 j1 j4 hf
          · replace hf := gd_f hc hf
            refine g_iconst (v := (1 : Int32)) hC dX5_noSong_55 ci_1 ?_
            refine g_goto (tgt := 60) hC dX5_noSong_56 (by decide) ?_
            refine g_lv (lv' := [(0, .int j0), (1, .long j1), (4, .int j4)]) [0, 1, 3] rfl ?_
            exact t60 k33 hk33 j0 j1 j4 (1 : Int32) hf
  unfold fX5_noSong at hf
  refine g_iload_n hC 0 dX5_noSong_0 rfl rfl ?_
  refine g_i2l hC dX5_noSong_1 ?_
  refine g_lconst (v := (1 : Int64)) hC dX5_noSong_2 rfl ?_
  refine g_ldc2 (v := (5 : Int64)) hC dX5_noSong_3 (List.mem_of_getElem? (i := 1) rfl) ?_
  obtain ⟨z6, hz6, hf⟩ := gd_b hf
  refine g_callSi (wr := []) (wn := []) hC [.long j0.toInt64, .long (1 : Int64), .long (5 : Int64)] (cX5_in_m (kl X) (kD X) j0.toInt64 (1 : Int64) (5 : Int64) z6 hz6) gX5_noSong_X5_in rfl kyX5_in rfl [] [] [] [] rfl rfl rfl rfl (by decide) rfl rfl rfl ⟨rfl, rfl⟩ ⟨Nat.le_of_ble_eq_true rfl, Nat.le_of_ble_eq_true rfl⟩ (Nat.le_of_ble_eq_true rfl) rfl dX5_noSong_6 ?_
  refine g_if_eq (tgt := 26) hC dX5_noSong_9 (by decide) (fun hc => ?_) (fun hc => ?_)
  · replace hf := gd_t hc hf
    refine g_iconst (v := (1 : Int32)) hC dX5_noSong_26 ci_1 ?_
    exact hQ ((1 : Int32)) _ _ (gd_s hf) (nz_of (Or.inr rfl)) dX5_noSong_27
  · replace hf := gd_f hc hf
    refine g_lload_n hC 1 dX5_noSong_12 rfl rfl ?_
    refine g_lconst (v := (0 : Int64)) hC dX5_noSong_13 rfl ?_
    refine g_iload_n hC 0 dX5_noSong_14 rfl rfl ?_
    obtain ⟨z15, hz15, hf⟩ := gd_b hf
    refine g_callSl (wr := []) (wn := []) hC [.int j0] (cX5_hundred_m (kl X) (kD X) j0 z15 hz15) gX5_noSong_X5_hundred rfl kyX5_hundred rfl [] [] [] [] rfl rfl rfl rfl (by decide) rfl rfl rfl ⟨rfl, rfl⟩ ⟨Nat.le_of_ble_eq_true rfl, Nat.le_of_ble_eq_true rfl⟩ (Nat.le_of_ble_eq_true rfl) rfl dX5_noSong_15 ?_
    refine g_lconst (v := (1 : Int64)) hC dX5_noSong_18 rfl ?_
    refine g_lsub hC dX5_noSong_19 ?_
    obtain ⟨z20, hz20, hf⟩ := gd_b hf
    refine g_callSi (wr := []) (wn := []) hC [.long j1, .long (0 : Int64), .long (z15 - (1 : Int64))] (cX5_in_m (kl X) (kD X) j1 (0 : Int64) (z15 - (1 : Int64)) z20 hz20) gX5_noSong_X5_in rfl kyX5_in rfl [] [] [] [] rfl rfl rfl rfl (by decide) rfl rfl rfl ⟨rfl, rfl⟩ ⟨Nat.le_of_ble_eq_true rfl, Nat.le_of_ble_eq_true rfl⟩ (Nat.le_of_ble_eq_true rfl) rfl dX5_noSong_20 ?_
    refine g_if_ne (tgt := 28) hC dX5_noSong_23 (by decide) (fun hc => ?_) (fun hc => ?_)
    · replace hf := gd_f hc hf
      refine g_iconst (v := (1 : Int32)) hC dX5_noSong_28 ci_1 ?_
      refine g_istore_n (lv' := [(3, .int (1 : Int32)), (0, .int j0), (1, .long j1)]) hC dX5_noSong_29 rfl (by decide) rfl ?_
      refine g_iconst (v := (0 : Int32)) hC dX5_noSong_30 ci_0 ?_
      refine g_istore (lv' := [(4, .int (0 : Int32)), (3, .int (1 : Int32)), (0, .int j0), (1, .long j1)]) hC dX5_noSong_31 (by decide) rfl ?_
      refine g_lv (lv' := [(0, .int j0), (1, .long j1), (3, .int (1 : Int32)), (4, .int (0 : Int32))]) [2, 3, 1, 0] rfl ?_
      exact t33  fu j0 j1 (1 : Int32) (0 : Int32) hf
    · replace hf := gd_t hc hf
      refine g_iconst (v := (1 : Int32)) hC dX5_noSong_26 ci_1 ?_
      exact hQ ((1 : Int32)) _ _ (gd_s hf) (nz_of (Or.inr rfl)) dX5_noSong_27
theorem kyX5_begin : yX5_begin.cls = RX5 ∧ yX5_begin.cls ≠ "java/lang/invoke/MethodHandle" ∧ yX5_begin.cls ≠ "java/lang/invoke/VarHandle" ∧ (parseMethodDescriptor yX5_begin.desc).map (fun d => d.parameters.length) = some 0 := by decide +kernel
set_option maxHeartbeats 4000000 in
set_option maxRecDepth 100000 in
theorem cX5_begin_m (l : Launch) (D : va_G) (aM aMtext aMnerve aMkind aMreadNerve aMreadKind aMpage aMtrial aMbook aMkept aMisKept aMtoldMinute aMtoldHeard aMworth : Nat) (iMpage iMtrial : ClassId) (xM_thrown : Int32) (xM_textSize : Int32) (xM_place : Int32) (xM_walkers : Int32) (xM_light : Int32) (xM_water : Int32) (xM_readWalkers : Int32) (xM_readLight : Int32) (xM_readWater : Int32) (xM_acts : Int32) (xM_told : Int32) (xM_seed : Int64) (xM_orderBest : Int32) (xM_orderMany : Int32) (xM_turned : Int32) (xMpage : Nat → Int32) (xMtrial : Nat → Int32)  (z : (Nat → Int32)) (hf : fX5_begin xMpage xMtrial = some z) : ∀ sz : Nat, Met l yX5_begin wsX5_begin ({ frames := 0, cells := 0, slots := 0, locals := 0 } : Room) (kPre D [(iMpage, .int), (iMtrial, .int)] [oO aM 4 [.int xM_thrown, .ref aMtext, .int xM_textSize, .int xM_place, .int xM_walkers, .int xM_light, .int xM_water, .ref aMnerve, .ref aMkind, .int xM_readWalkers, .int xM_readLight, .int xM_readWater, .ref aMreadNerve, .ref aMreadKind, .ref aMpage, .ref aMtrial, .ref aMbook, .int xM_acts, .ref aMkept, .ref aMisKept, .int xM_told, .ref aMtoldMinute, .ref aMtoldHeard, .long xM_seed, .int xM_orderBest, .int xM_orderMany, .ref aMworth, .int xM_turned], oI aMpage iMpage 13 xMpage, oI aMtrial iMtrial 13 xMtrial] sz [.ref aM]) (kQv D [(iMpage, .int), (iMtrial, .int)] [oO aM 4 [.int xM_thrown, .ref aMtext, .int xM_textSize, .int xM_place, .int xM_walkers, .int xM_light, .int xM_water, .ref aMnerve, .ref aMkind, .int xM_readWalkers, .int xM_readLight, .int xM_readWater, .ref aMreadNerve, .ref aMreadKind, .ref aMpage, .ref aMtrial, .ref aMbook, .int xM_acts, .ref aMkept, .ref aMisKept, .int xM_told, .ref aMtoldMinute, .ref aMtoldHeard, .long xM_seed, .int xM_orderBest, .int xM_orderMany, .ref aMworth, .int xM_turned], oI aMpage iMpage 13 xMpage, oI aMtrial iMtrial 13 xMtrial] sz [oO aM 4 [.int xM_thrown, .ref aMtext, .int xM_textSize, .int xM_place, .int xM_walkers, .int xM_light, .int xM_water, .ref aMnerve, .ref aMkind, .int xM_readWalkers, .int xM_readLight, .int xM_readWater, .ref aMreadNerve, .ref aMreadKind, .ref aMpage, .ref aMtrial, .ref aMbook, .int xM_acts, .ref aMkept, .ref aMisKept, .int xM_told, .ref aMtoldMinute, .ref aMtoldHeard, .long xM_seed, .int xM_orderBest, .int xM_orderMany, .ref aMworth, .int xM_turned], oI aMpage iMpage 13 xMpage, oI aMtrial iMtrial 13 z]) 0 0 (va_A [oO aM 4 [.int xM_thrown, .ref aMtext, .int xM_textSize, .int xM_place, .int xM_walkers, .int xM_light, .int xM_water, .ref aMnerve, .ref aMkind, .int xM_readWalkers, .int xM_readLight, .int xM_readWater, .ref aMreadNerve, .ref aMreadKind, .ref aMpage, .ref aMtrial, .ref aMbook, .int xM_acts, .ref aMkept, .ref aMisKept, .int xM_told, .ref aMtoldMinute, .ref aMtoldHeard, .long xM_seed, .int xM_orderBest, .int xM_orderMany, .ref aMworth, .int xM_turned], oI aMpage iMpage 13 xMpage, oI aMtrial iMtrial 13 xMtrial] sz) := by
  refine kMet_v (own := RX5) z (fun u => [oO aM 4 [.int xM_thrown, .ref aMtext, .int xM_textSize, .int xM_place, .int xM_walkers, .int xM_light, .int xM_water, .ref aMnerve, .ref aMkind, .int xM_readWalkers, .int xM_readLight, .int xM_readWater, .ref aMreadNerve, .ref aMreadKind, .ref aMpage, .ref aMtrial, .ref aMbook, .int xM_acts, .ref aMkept, .ref aMisKept, .int xM_told, .ref aMtoldMinute, .ref aMtoldHeard, .long xM_seed, .int xM_orderBest, .int xM_orderMany, .ref aMworth, .int xM_turned], oI aMpage iMpage 13 xMpage, oI aMtrial iMtrial 13 u]) rfl (by decide) rfl ⟨rfl, rfl⟩ (Nat.le_of_ble_eq_true rfl) ?_
  intro X hXl hXD hC hQ
  subst hXl
  subst hXD
  change kG X 0 [(0, .ref aM)] [] [oO aM 4 [.int xM_thrown, .ref aMtext, .int xM_textSize, .int xM_place, .int xM_walkers, .int xM_light, .int xM_water, .ref aMnerve, .ref aMkind, .int xM_readWalkers, .int xM_readLight, .int xM_readWater, .ref aMreadNerve, .ref aMreadKind, .ref aMpage, .ref aMtrial, .ref aMbook, .int xM_acts, .ref aMkept, .ref aMisKept, .int xM_told, .ref aMtoldMinute, .ref aMtoldHeard, .long xM_seed, .int xM_orderBest, .int xM_orderMany, .ref aMworth, .int xM_turned], oI aMpage iMpage 13 xMpage, oI aMtrial iMtrial 13 xMtrial]
  have hinX5 : ∀ w ∈ wsX50, w ∈ wsX5_begin := fun _ h => List.mem_cons_of_mem _ (List.mem_append_right _ h)
  have t2 : ∀  (n : Nat) (j1 : Int32) (xMtrial : Nat → Int32), lp (fun _ _ => none) (fX5_begin_b2_S xMpage ) n j1 xMtrial = some z → kG X 2 [(0, .ref aM), (1, .int j1)] [] [oO aM 4 [.int xM_thrown, .ref aMtext, .int xM_textSize, .int xM_place, .int xM_walkers, .int xM_light, .int xM_water, .ref aMnerve, .ref aMkind, .int xM_readWalkers, .int xM_readLight, .int xM_readWater, .ref aMreadNerve, .ref aMreadKind, .ref aMpage, .ref aMtrial, .ref aMbook, .int xM_acts, .ref aMkept, .ref aMisKept, .int xM_told, .ref aMtoldMinute, .ref aMtoldHeard, .long xM_seed, .int xM_orderBest, .int xM_orderMany, .ref aMworth, .int xM_turned], oI aMpage iMpage 13 xMpage, oI aMtrial iMtrial 13 xMtrial] := by
    intro  n
    induction n with
    | zero => intro j1 xMtrial hf; cases hf
    | succ n hk2 =>
      intro j1 xMtrial hf
      rw [lp_s] at hf
      revert hf hk2
      generalize lp (fun _ _ => none) (fX5_begin_b2_S xMpage ) n = k2
      intro hk2 hf
      unfold fX5_begin_b2_S at hf
      refine g_iload_n hC 1 dX5_begin_2 rfl rfl ?_
      refine g_bipush (v := (13 : Int32)) hC dX5_begin_3 cb_13 ?_
      refine g_icmp_ge (tgt := 26) hC dX5_begin_5 (by decide) (fun hc => ?_) (fun hc => ?_)
      · replace hf := gd_t hc hf
        exact hQ (xMtrial) _ _ (gd_s hf) dX5_begin_26
      · replace hf := gd_f hc hf
        refine g_aload_n hC 0 dX5_begin_8 rfl rfl ?_
        refine g_get (C := RX5) (T := TX5) (N := 28) (v := .ref aMtrial) hC hinX5 0 15 rfl rfl (by decide) (List.mem_of_getElem? (i := 1) rfl) rfl dX5_begin_9 ?_
        refine g_iload_n hC 1 dX5_begin_12 rfl rfl ?_
        refine g_aload_n hC 0 dX5_begin_13 rfl rfl ?_
        refine g_get (C := RX5) (T := TX5) (N := 28) (v := .ref aMpage) hC hinX5 0 14 rfl rfl (by decide) (List.mem_of_getElem? (i := 2) rfl) rfl dX5_begin_14 ?_
        refine g_iload_n hC 1 dX5_begin_17 rfl rfl ?_
        obtain ⟨hg, hf⟩ := gd_ga hf
        refine g_iald hC 1 0 hg rfl rfl dX5_begin_18 ?_
        obtain ⟨hg, hf⟩ := gd_ga hf
        refine g_iast (ws' := [oO aM 4 [.int xM_thrown, .ref aMtext, .int xM_textSize, .int xM_place, .int xM_walkers, .int xM_light, .int xM_water, .ref aMnerve, .ref aMkind, .int xM_readWalkers, .int xM_readLight, .int xM_readWater, .ref aMreadNerve, .ref aMreadKind, .ref aMpage, .ref aMtrial, .ref aMbook, .int xM_acts, .ref aMkept, .ref aMisKept, .int xM_told, .ref aMtoldMinute, .ref aMtoldHeard, .long xM_seed, .int xM_orderBest, .int xM_orderMany, .ref aMworth, .int xM_turned], oI aMpage iMpage 13 xMpage, oI aMtrial iMtrial 13 (upd xMtrial j1.toNatClampNeg (xMpage j1.toNatClampNeg))]) hC 2 1 hg rfl rfl dX5_begin_19 rfl ?_
        refine g_iinc (v := (j1 + (1 : Int32))) (lv' := [(1, .int (j1 + (1 : Int32))), (0, .ref aM)]) hC 1 dX5_begin_20 rfl (ii _ ci_1) (by decide) rfl ?_
        refine g_goto (tgt := 2) hC dX5_begin_23 (by decide) ?_
        refine g_lv (lv' := [(0, .ref aM), (1, .int (j1 + (1 : Int32)))]) [1, 0] rfl ?_
        exact hk2 (j1 + (1 : Int32)) (upd xMtrial j1.toNatClampNeg (xMpage j1.toNatClampNeg)) hf
  unfold fX5_begin at hf
  refine g_iconst (v := (0 : Int32)) hC dX5_begin_0 ci_0 ?_
  refine g_istore_n (lv' := [(1, .int (0 : Int32)), (0, .ref aM)]) hC dX5_begin_1 rfl (by decide) rfl ?_
  refine g_lv (lv' := [(0, .ref aM), (1, .int (0 : Int32))]) [1, 0] rfl ?_
  exact t2  fu (0 : Int32) xMtrial hf
theorem kyX5_sing : yX5_sing.cls = RX5 ∧ yX5_sing.cls ≠ "java/lang/invoke/MethodHandle" ∧ yX5_sing.cls ≠ "java/lang/invoke/VarHandle" ∧ (parseMethodDescriptor yX5_sing.desc).map (fun d => d.parameters.length) = some 2 := by decide +kernel
set_option maxHeartbeats 4000000 in
set_option maxRecDepth 100000 in
theorem cX5_sing_m (l : Launch) (D : va_G) (aM aMtext aMnerve aMkind aMreadNerve aMreadKind aMpage aMtrial aMbook aMkept aMisKept aMtoldMinute aMtoldHeard aMworth : Nat) (iMnerve iMkind iMtrial : ClassId) (xM_thrown : Int32) (xM_textSize : Int32) (xM_place : Int32) (xM_walkers : Int32) (xM_light : Int32) (xM_water : Int32) (xM_readWalkers : Int32) (xM_readLight : Int32) (xM_readWater : Int32) (xM_acts : Int32) (xM_told : Int32) (xM_seed : Int64) (xM_orderBest : Int32) (xM_orderMany : Int32) (xM_turned : Int32) (xMnerve : Nat → Int32) (xMkind : Nat → Int32) (xMtrial : Nat → Int32) (j1 : Int32) (j2 : Int64) (z : Int32 × Int32 × (Nat → Int32)) (hf : fX5_sing j1 j2 xM_light xM_water xM_turned xMnerve xMkind xMtrial = some z) : ∀ sz : Nat, Met l yX5_sing wsX5_sing ({ frames := 3, cells := 0, slots := 0, locals := 71 } : Room) (kPre D [(iMnerve, .int), (iMkind, .int), (iMtrial, .int)] [oO aM 4 [.int xM_thrown, .ref aMtext, .int xM_textSize, .int xM_place, .int xM_walkers, .int xM_light, .int xM_water, .ref aMnerve, .ref aMkind, .int xM_readWalkers, .int xM_readLight, .int xM_readWater, .ref aMreadNerve, .ref aMreadKind, .ref aMpage, .ref aMtrial, .ref aMbook, .int xM_acts, .ref aMkept, .ref aMisKept, .int xM_told, .ref aMtoldMinute, .ref aMtoldHeard, .long xM_seed, .int xM_orderBest, .int xM_orderMany, .ref aMworth, .int xM_turned], oI aMnerve iMnerve 5 xMnerve, oI aMkind iMkind 5 xMkind, oI aMtrial iMtrial 13 xMtrial] sz [.ref aM, .int j1, .long j2]) (kQi D [(iMnerve, .int), (iMkind, .int), (iMtrial, .int)] [oO aM 4 [.int xM_thrown, .ref aMtext, .int xM_textSize, .int xM_place, .int xM_walkers, .int xM_light, .int xM_water, .ref aMnerve, .ref aMkind, .int xM_readWalkers, .int xM_readLight, .int xM_readWater, .ref aMreadNerve, .ref aMreadKind, .ref aMpage, .ref aMtrial, .ref aMbook, .int xM_acts, .ref aMkept, .ref aMisKept, .int xM_told, .ref aMtoldMinute, .ref aMtoldHeard, .long xM_seed, .int xM_orderBest, .int xM_orderMany, .ref aMworth, .int xM_turned], oI aMnerve iMnerve 5 xMnerve, oI aMkind iMkind 5 xMkind, oI aMtrial iMtrial 13 xMtrial] sz [oO aM 4 [.int xM_thrown, .ref aMtext, .int xM_textSize, .int xM_place, .int xM_walkers, .int xM_light, .int xM_water, .ref aMnerve, .ref aMkind, .int xM_readWalkers, .int xM_readLight, .int xM_readWater, .ref aMreadNerve, .ref aMreadKind, .ref aMpage, .ref aMtrial, .ref aMbook, .int xM_acts, .ref aMkept, .ref aMisKept, .int xM_told, .ref aMtoldMinute, .ref aMtoldHeard, .long xM_seed, .int xM_orderBest, .int xM_orderMany, .ref aMworth, .int z.2.1], oI aMnerve iMnerve 5 xMnerve, oI aMkind iMkind 5 xMkind, oI aMtrial iMtrial 13 z.2.2] z.1) 0 0 (va_A [oO aM 4 [.int xM_thrown, .ref aMtext, .int xM_textSize, .int xM_place, .int xM_walkers, .int xM_light, .int xM_water, .ref aMnerve, .ref aMkind, .int xM_readWalkers, .int xM_readLight, .int xM_readWater, .ref aMreadNerve, .ref aMreadKind, .ref aMpage, .ref aMtrial, .ref aMbook, .int xM_acts, .ref aMkept, .ref aMisKept, .int xM_told, .ref aMtoldMinute, .ref aMtoldHeard, .long xM_seed, .int xM_orderBest, .int xM_orderMany, .ref aMworth, .int xM_turned], oI aMnerve iMnerve 5 xMnerve, oI aMkind iMkind 5 xMkind, oI aMtrial iMtrial 13 xMtrial] sz) := by
  refine kMet_i (own := RX5) z (fun u => u.1) (fun u => [oO aM 4 [.int xM_thrown, .ref aMtext, .int xM_textSize, .int xM_place, .int xM_walkers, .int xM_light, .int xM_water, .ref aMnerve, .ref aMkind, .int xM_readWalkers, .int xM_readLight, .int xM_readWater, .ref aMreadNerve, .ref aMreadKind, .ref aMpage, .ref aMtrial, .ref aMbook, .int xM_acts, .ref aMkept, .ref aMisKept, .int xM_told, .ref aMtoldMinute, .ref aMtoldHeard, .long xM_seed, .int xM_orderBest, .int xM_orderMany, .ref aMworth, .int u.2.1], oI aMnerve iMnerve 5 xMnerve, oI aMkind iMkind 5 xMkind, oI aMtrial iMtrial 13 u.2.2]) rfl (by decide) rfl ⟨rfl, rfl⟩ (Nat.le_of_ble_eq_true rfl) ?_
  intro X hXl hXD hC hQ
  subst hXl
  subst hXD
  change kG X 0 [(0, .ref aM), (1, .int j1), (2, .long j2)] [] [oO aM 4 [.int xM_thrown, .ref aMtext, .int xM_textSize, .int xM_place, .int xM_walkers, .int xM_light, .int xM_water, .ref aMnerve, .ref aMkind, .int xM_readWalkers, .int xM_readLight, .int xM_readWater, .ref aMreadNerve, .ref aMreadKind, .ref aMpage, .ref aMtrial, .ref aMbook, .int xM_acts, .ref aMkept, .ref aMisKept, .int xM_told, .ref aMtoldMinute, .ref aMtoldHeard, .long xM_seed, .int xM_orderBest, .int xM_orderMany, .ref aMworth, .int xM_turned], oI aMnerve iMnerve 5 xMnerve, oI aMkind iMkind 5 xMkind, oI aMtrial iMtrial 13 xMtrial]
  have hinX5 : ∀ w ∈ wsX50, w ∈ wsX5_sing := fun _ h => List.mem_cons_of_mem _ (List.mem_append_right _ h)
  have t63 : ∀ (k7 : Int32 → Int64 → Int32 → Int32 → Int32 → (Nat → Int32) → Option (Int32 × Int32 × (Nat → Int32))) (hk7 : ∀ (j1 : Int32) (j2 : Int64) (j4 : Int32) (j5 : Int32) (xM_turned : Int32) (xMtrial : Nat → Int32), k7 j1 j2 j4 j5 xM_turned xMtrial = some z → kG X 7 [(0, .ref aM), (1, .int j1), (2, .long j2), (4, .int j4), (5, .int j5)] [] [oO aM 4 [.int xM_thrown, .ref aMtext, .int xM_textSize, .int xM_place, .int xM_walkers, .int xM_light, .int xM_water, .ref aMnerve, .ref aMkind, .int xM_readWalkers, .int xM_readLight, .int xM_readWater, .ref aMreadNerve, .ref aMreadKind, .ref aMpage, .ref aMtrial, .ref aMbook, .int xM_acts, .ref aMkept, .ref aMisKept, .int xM_told, .ref aMtoldMinute, .ref aMtoldHeard, .long xM_seed, .int xM_orderBest, .int xM_orderMany, .ref aMworth, .int xM_turned], oI aMnerve iMnerve 5 xMnerve, oI aMkind iMkind 5 xMkind, oI aMtrial iMtrial 13 xMtrial]) (j1 : Int32) (j2 : Int64) (j5 : Int32) (y0 : Int32) (xM_turned : Int32) (xMtrial : Nat → Int32), fX5_sing_b63 xM_light xM_water xMnerve xMkind k7 j1 j2 j5 y0 xM_turned xMtrial = some z → kG X 63 [(0, .ref aM), (1, .int j1), (2, .long j2), (5, .int j5)] [.int y0] [oO aM 4 [.int xM_thrown, .ref aMtext, .int xM_textSize, .int xM_place, .int xM_walkers, .int xM_light, .int xM_water, .ref aMnerve, .ref aMkind, .int xM_readWalkers, .int xM_readLight, .int xM_readWater, .ref aMreadNerve, .ref aMreadKind, .ref aMpage, .ref aMtrial, .ref aMbook, .int xM_acts, .ref aMkept, .ref aMisKept, .int xM_told, .ref aMtoldMinute, .ref aMtoldHeard, .long xM_seed, .int xM_orderBest, .int xM_orderMany, .ref aMworth, .int xM_turned], oI aMnerve iMnerve 5 xMnerve, oI aMkind iMkind 5 xMkind, oI aMtrial iMtrial 13 xMtrial] := by
    intro k7 hk7 j1 j2 j5 y0 xM_turned xMtrial hf
    unfold fX5_sing_b63 at hf
    refine g_istore (lv' := [(4, .int y0), (0, .ref aM), (1, .int j1), (2, .long j2), (5, .int j5)]) hC dX5_sing_63 (by decide) rfl ?_
    refine g_iinc (v := (j5 + (1 : Int32))) (lv' := [(5, .int (j5 + (1 : Int32))), (4, .int y0), (0, .ref aM), (1, .int j1), (2, .long j2)]) hC 4 dX5_sing_65 rfl (ii _ ci_1) (by decide) rfl ?_
    refine g_goto (tgt := 7) hC dX5_sing_68 (by decide) ?_
    refine g_lv (lv' := [(0, .ref aM), (1, .int j1), (2, .long j2), (4, .int y0), (5, .int (j5 + (1 : Int32)))]) [2, 3, 4, 1, 0] rfl ?_
    exact hk7 j1 j2 y0 (j5 + (1 : Int32)) xM_turned xMtrial hf
  have t61 : ∀ (k7 : Int32 → Int64 → Int32 → Int32 → Int32 → (Nat → Int32) → Option (Int32 × Int32 × (Nat → Int32))) (hk7 : ∀ (j1 : Int32) (j2 : Int64) (j4 : Int32) (j5 : Int32) (xM_turned : Int32) (xMtrial : Nat → Int32), k7 j1 j2 j4 j5 xM_turned xMtrial = some z → kG X 7 [(0, .ref aM), (1, .int j1), (2, .long j2), (4, .int j4), (5, .int j5)] [] [oO aM 4 [.int xM_thrown, .ref aMtext, .int xM_textSize, .int xM_place, .int xM_walkers, .int xM_light, .int xM_water, .ref aMnerve, .ref aMkind, .int xM_readWalkers, .int xM_readLight, .int xM_readWater, .ref aMreadNerve, .ref aMreadKind, .ref aMpage, .ref aMtrial, .ref aMbook, .int xM_acts, .ref aMkept, .ref aMisKept, .int xM_told, .ref aMtoldMinute, .ref aMtoldHeard, .long xM_seed, .int xM_orderBest, .int xM_orderMany, .ref aMworth, .int xM_turned], oI aMnerve iMnerve 5 xMnerve, oI aMkind iMkind 5 xMkind, oI aMtrial iMtrial 13 xMtrial]) (j1 : Int32) (j2 : Int64) (j4 : Int32) (j5 : Int32) (xM_turned : Int32) (xMtrial : Nat → Int32), fX5_sing_b61 xM_light xM_water xMnerve xMkind k7 j1 j2 j4 j5 xM_turned xMtrial = some z → kG X 61 [(0, .ref aM), (1, .int j1), (2, .long j2), (4, .int j4), (5, .int j5)] [] [oO aM 4 [.int xM_thrown, .ref aMtext, .int xM_textSize, .int xM_place, .int xM_walkers, .int xM_light, .int xM_water, .ref aMnerve, .ref aMkind, .int xM_readWalkers, .int xM_readLight, .int xM_readWater, .ref aMreadNerve, .ref aMreadKind, .ref aMpage, .ref aMtrial, .ref aMbook, .int xM_acts, .ref aMkept, .ref aMisKept, .int xM_told, .ref aMtoldMinute, .ref aMtoldHeard, .long xM_seed, .int xM_orderBest, .int xM_orderMany, .ref aMworth, .int xM_turned], oI aMnerve iMnerve 5 xMnerve, oI aMkind iMkind 5 xMkind, oI aMtrial iMtrial 13 xMtrial] := by
    intro k7 hk7 j1 j2 j4 j5 xM_turned xMtrial hf
    unfold fX5_sing_b61 at hf
    refine g_iload hC 3 dX5_sing_61 rfl ?_
    refine g_lv (lv' := [(0, .ref aM), (1, .int j1), (2, .long j2), (5, .int j5)]) [0, 1, 2, 4] rfl ?_
    exact t63 k7 hk7 j1 j2 j5 j4 xM_turned xMtrial hf
  have t7 : ∀  (n : Nat) (j1 : Int32) (j2 : Int64) (j4 : Int32) (j5 : Int32) (xM_turned : Int32) (xMtrial : Nat → Int32), lp (fun _ _ _ _ _ _ => none) (fX5_sing_b7_S xM_light xM_water xMnerve xMkind ) n j1 j2 j4 j5 xM_turned xMtrial = some z → kG X 7 [(0, .ref aM), (1, .int j1), (2, .long j2), (4, .int j4), (5, .int j5)] [] [oO aM 4 [.int xM_thrown, .ref aMtext, .int xM_textSize, .int xM_place, .int xM_walkers, .int xM_light, .int xM_water, .ref aMnerve, .ref aMkind, .int xM_readWalkers, .int xM_readLight, .int xM_readWater, .ref aMreadNerve, .ref aMreadKind, .ref aMpage, .ref aMtrial, .ref aMbook, .int xM_acts, .ref aMkept, .ref aMisKept, .int xM_told, .ref aMtoldMinute, .ref aMtoldHeard, .long xM_seed, .int xM_orderBest, .int xM_orderMany, .ref aMworth, .int xM_turned], oI aMnerve iMnerve 5 xMnerve, oI aMkind iMkind 5 xMkind, oI aMtrial iMtrial 13 xMtrial] := by
    intro  n
    induction n with
    | zero => intro j1 j2 j4 j5 xM_turned xMtrial hf; cases hf
    | succ n hk7 =>
      intro j1 j2 j4 j5 xM_turned xMtrial hf
      rw [lp_s] at hf
      revert hf hk7
      generalize lp (fun _ _ _ _ _ _ => none) (fX5_sing_b7_S xM_light xM_water xMnerve xMkind ) n = k7
      intro hk7 hf
      unfold fX5_sing_b7_S at hf
      refine g_iload hC 4 dX5_sing_7 rfl ?_
      refine g_iload_n hC 1 dX5_sing_9 rfl rfl ?_
      refine g_icmp_ge (tgt := 71) hC dX5_sing_10 (by decide) (fun hc => ?_) (fun hc => ?_)
      · replace hf := gd_t hc hf
        refine g_iload hC 3 dX5_sing_71 rfl ?_
        exact hQ (j4, xM_turned, xMtrial) _ _ (gd_s hf) dX5_sing_73
      · replace hf := gd_f hc hf
        refine g_aload_n hC 0 dX5_sing_13 rfl rfl ?_
        refine g_get (C := RX5) (T := TX5) (N := 28) (v := .ref aMtrial) hC hinX5 0 15 rfl rfl (by decide) (List.mem_of_getElem? (i := 1) rfl) rfl dX5_sing_14 ?_
        refine g_bipush (v := (11 : Int32)) hC dX5_sing_17 cb_11 ?_
        obtain ⟨hg, hf⟩ := gd_ga hf
        refine g_iald hC 3 2 hg rfl rfl dX5_sing_19 ?_
        refine g_aload_n hC 0 dX5_sing_20 rfl rfl ?_
        refine g_get (C := RX5) (T := TX5) (N := 28) (v := .int xM_light) hC hinX5 0 5 rfl rfl (by decide) (List.mem_of_getElem? (i := 2) rfl) rfl dX5_sing_21 ?_
        refine g_icmp_ge (tgt := 71) hC dX5_sing_24 (by decide) (fun hc => ?_) (fun hc => ?_)
        · replace hf := gd_t hc hf
          refine g_iload hC 3 dX5_sing_71 rfl ?_
          exact hQ (j4, xM_turned, xMtrial) _ _ (gd_s hf) dX5_sing_73
        · replace hf := gd_f hc hf
          refine g_aload_n hC 0 dX5_sing_27 rfl rfl ?_
          refine g_aload_n hC 0 dX5_sing_28 rfl rfl ?_
          refine g_get (C := RX5) (T := TX5) (N := 28) (v := .ref aMtrial) hC hinX5 0 15 rfl rfl (by decide) (List.mem_of_getElem? (i := 1) rfl) rfl dX5_sing_29 ?_
          refine g_iload_n hC 1 dX5_sing_32 rfl rfl ?_
          refine g_lload_n hC 2 dX5_sing_33 rfl rfl ?_
          refine g_iload hC 4 dX5_sing_34 rfl ?_
          obtain ⟨z36, hz36, hf⟩ := gd_b hf
          refine g_callSi (wr := [oO aM 4 [.int xM_thrown, .ref aMtext, .int xM_textSize, .int xM_place, .int xM_walkers, .int xM_light, .int xM_water, .ref aMnerve, .ref aMkind, .int xM_readWalkers, .int xM_readLight, .int xM_readWater, .ref aMreadNerve, .ref aMreadKind, .ref aMpage, .ref aMtrial, .ref aMbook, .int xM_acts, .ref aMkept, .ref aMisKept, .int xM_told, .ref aMtoldMinute, .ref aMtoldHeard, .long xM_seed, .int xM_orderBest, .int xM_orderMany, .ref aMworth, .int xM_turned], oI aMnerve iMnerve 5 xMnerve, oI aMkind iMkind 5 xMkind, oI aMtrial iMtrial 13 xMtrial]) (wn := [oO aM 4 [.int xM_thrown, .ref aMtext, .int xM_textSize, .int xM_place, .int xM_walkers, .int xM_light, .int xM_water, .ref aMnerve, .ref aMkind, .int xM_readWalkers, .int xM_readLight, .int xM_readWater, .ref aMreadNerve, .ref aMreadKind, .ref aMpage, .ref aMtrial, .ref aMbook, .int xM_acts, .ref aMkept, .ref aMisKept, .int xM_told, .ref aMtoldMinute, .ref aMtoldHeard, .long xM_seed, .int xM_orderBest, .int xM_orderMany, .ref aMworth, .int xM_turned], oI aMnerve iMnerve 5 xMnerve, oI aMkind iMkind 5 xMkind, oI aMtrial iMtrial 13 xMtrial]) hC [.int j1, .long j2, .int j5] (cX5_treadsOf_m (kl X) (kD X) j1 j2 j5 z36 hz36) gX5_sing_X5_treadsOf rfl kyX5_treadsOf rfl [] [0, 1, 2, 3] [] [0, 1, 2, 3] rfl rfl rfl rfl (by decide) rfl rfl rfl ⟨rfl, rfl⟩ ⟨Nat.le_of_ble_eq_true rfl, Nat.le_of_ble_eq_true rfl⟩ (Nat.le_of_ble_eq_true rfl) rfl dX5_sing_36 ?_
          obtain ⟨z39, hz39, hf⟩ := gd_b hf
          refine g_callVi (wr := []) (wn := [oO aM 4 [.int xM_thrown, .ref aMtext, .int xM_textSize, .int xM_place, .int xM_walkers, .int xM_light, .int xM_water, .ref aMnerve, .ref aMkind, .int xM_readWalkers, .int xM_readLight, .int xM_readWater, .ref aMreadNerve, .ref aMreadKind, .ref aMpage, .ref aMtrial, .ref aMbook, .int xM_acts, .ref aMkept, .ref aMisKept, .int xM_told, .ref aMtoldMinute, .ref aMtoldHeard, .long xM_seed, .int xM_orderBest, .int xM_orderMany, .ref aMworth, .int z39.2.1], oI aMnerve iMnerve 5 xMnerve, oI aMkind iMkind 5 xMkind, oI aMtrial iMtrial 13 z39.2.2]) hC [.ref aMtrial, .int z36] (cX5_goMinute_m (kl X) (kD X) aM aMtext aMnerve aMkind aMreadNerve aMreadKind aMpage aMtrial aMbook aMkept aMisKept aMtoldMinute aMtoldHeard aMworth aMtrial iMnerve iMkind iMtrial xM_thrown xM_textSize xM_place xM_walkers xM_light xM_water xM_readWalkers xM_readLight xM_readWater xM_acts xM_told xM_seed xM_orderBest xM_orderMany xM_turned xMnerve xMkind xMtrial z36 z39 hz39) gX5_sing_X5_goMinute rfl kyX5_goMinute rfl rfl rfl (q0 := 0) rfl [0, 1, 2, 3] [] [0, 1, 2] [0, 1, 2, 3] rfl rfl rfl rfl (by decide) rfl rfl rfl ⟨rfl, rfl⟩ ⟨Nat.le_of_ble_eq_true rfl, Nat.le_of_ble_eq_true rfl⟩ (Nat.le_of_ble_eq_true rfl) rfl dX5_sing_39 ?_
          refine g_istore (lv' := [(6, .int z39.1), (0, .ref aM), (1, .int j1), (2, .long j2), (4, .int j4), (5, .int j5)]) hC dX5_sing_42 (by decide) rfl ?_
          refine g_iload hC 0 dX5_sing_44 rfl ?_
          refine g_if_eq (tgt := 61) hC dX5_sing_46 (by decide) (fun hc => ?_) (fun hc => ?_)
          · replace hf := gd_t hc hf
            refine g_lv (lv' := [(0, .ref aM), (1, .int j1), (2, .long j2), (4, .int j4), (5, .int j5)]) [1, 2, 3, 4, 5] rfl ?_
            exact t61 k7 hk7 j1 j2 j4 j5 z39.2.1 z39.2.2 hf
          · replace hf := gd_f hc hf
            refine g_iload hC 4 dX5_sing_49 rfl ?_
            refine g_bipush (v := (-9 : Int32)) hC dX5_sing_51 cb_m9 ?_
            refine g_icmp_ne (tgt := 61) hC dX5_sing_53 (by decide) (fun hc => ?_) (fun hc => ?_)
            · replace hf := gd_f hc hf
              refine g_lv (lv' := [(0, .ref aM), (1, .int j1), (2, .long j2), (4, .int j4), (5, .int j5)]) [1, 2, 3, 4, 5] rfl ?_
              exact t61 k7 hk7 j1 j2 j4 j5 z39.2.1 z39.2.2 hf
            · replace hf := gd_t hc hf
              refine g_iload hC 5 dX5_sing_56 rfl ?_
              refine g_goto (tgt := 63) hC dX5_sing_58 (by decide) ?_
              refine g_lv (lv' := [(0, .ref aM), (1, .int j1), (2, .long j2), (5, .int j5)]) [1, 2, 3, 5] rfl ?_
              exact t63 k7 hk7 j1 j2 j5 j5 z39.2.1 z39.2.2 hf
  unfold fX5_sing at hf
  refine g_bipush (v := (-9 : Int32)) hC dX5_sing_0 cb_m9 ?_
  refine g_istore (lv' := [(4, .int (-9 : Int32)), (0, .ref aM), (1, .int j1), (2, .long j2)]) hC dX5_sing_2 (by decide) rfl ?_
  refine g_iconst (v := (0 : Int32)) hC dX5_sing_4 ci_0 ?_
  refine g_istore (lv' := [(5, .int (0 : Int32)), (4, .int (-9 : Int32)), (0, .ref aM), (1, .int j1), (2, .long j2)]) hC dX5_sing_5 (by decide) rfl ?_
  refine g_lv (lv' := [(0, .ref aM), (1, .int j1), (2, .long j2), (4, .int (-9 : Int32)), (5, .int (0 : Int32))]) [2, 3, 4, 1, 0] rfl ?_
  exact t7  fu j1 j2 (-9 : Int32) (0 : Int32) xM_turned xMtrial hf
theorem kyX5_left : yX5_left.cls = RX5 ∧ yX5_left.cls ≠ "java/lang/invoke/MethodHandle" ∧ yX5_left.cls ≠ "java/lang/invoke/VarHandle" ∧ (parseMethodDescriptor yX5_left.desc).map (fun d => d.parameters.length) = some 2 := by decide +kernel
set_option maxHeartbeats 4000000 in
set_option maxRecDepth 100000 in
theorem cX5_left_m (l : Launch) (D : va_G) (aM aMtext aMnerve aMkind aMreadNerve aMreadKind aMpage aMtrial aMbook aMkept aMisKept aMtoldMinute aMtoldHeard aMworth : Nat) (iMnerve iMkind iMpage iMtrial : ClassId) (xM_thrown : Int32) (xM_textSize : Int32) (xM_place : Int32) (xM_walkers : Int32) (xM_light : Int32) (xM_water : Int32) (xM_readWalkers : Int32) (xM_readLight : Int32) (xM_readWater : Int32) (xM_acts : Int32) (xM_told : Int32) (xM_seed : Int64) (xM_orderBest : Int32) (xM_orderMany : Int32) (xM_turned : Int32) (xMnerve : Nat → Int32) (xMkind : Nat → Int32) (xMpage : Nat → Int32) (xMtrial : Nat → Int32) (j1 : Int32) (j2 : Int64) (z : Int32 × Int32 × Int32 × (Nat → Int32)) (hf : fX5_left j1 j2 xM_thrown xM_light xM_water xM_turned xMnerve xMkind xMpage xMtrial = some z) : ∀ sz : Nat, Met l yX5_left wsX5_left ({ frames := 4, cells := 0, slots := 0, locals := 97 } : Room) (kPre D [(iMnerve, .int), (iMkind, .int), (iMpage, .int), (iMtrial, .int)] [oO aM 4 [.int xM_thrown, .ref aMtext, .int xM_textSize, .int xM_place, .int xM_walkers, .int xM_light, .int xM_water, .ref aMnerve, .ref aMkind, .int xM_readWalkers, .int xM_readLight, .int xM_readWater, .ref aMreadNerve, .ref aMreadKind, .ref aMpage, .ref aMtrial, .ref aMbook, .int xM_acts, .ref aMkept, .ref aMisKept, .int xM_told, .ref aMtoldMinute, .ref aMtoldHeard, .long xM_seed, .int xM_orderBest, .int xM_orderMany, .ref aMworth, .int xM_turned], oI aMnerve iMnerve 5 xMnerve, oI aMkind iMkind 5 xMkind, oI aMpage iMpage 13 xMpage, oI aMtrial iMtrial 13 xMtrial] sz [.ref aM, .int j1, .long j2]) (kQi D [(iMnerve, .int), (iMkind, .int), (iMpage, .int), (iMtrial, .int)] [oO aM 4 [.int xM_thrown, .ref aMtext, .int xM_textSize, .int xM_place, .int xM_walkers, .int xM_light, .int xM_water, .ref aMnerve, .ref aMkind, .int xM_readWalkers, .int xM_readLight, .int xM_readWater, .ref aMreadNerve, .ref aMreadKind, .ref aMpage, .ref aMtrial, .ref aMbook, .int xM_acts, .ref aMkept, .ref aMisKept, .int xM_told, .ref aMtoldMinute, .ref aMtoldHeard, .long xM_seed, .int xM_orderBest, .int xM_orderMany, .ref aMworth, .int xM_turned], oI aMnerve iMnerve 5 xMnerve, oI aMkind iMkind 5 xMkind, oI aMpage iMpage 13 xMpage, oI aMtrial iMtrial 13 xMtrial] sz [oO aM 4 [.int z.2.1, .ref aMtext, .int xM_textSize, .int xM_place, .int xM_walkers, .int xM_light, .int xM_water, .ref aMnerve, .ref aMkind, .int xM_readWalkers, .int xM_readLight, .int xM_readWater, .ref aMreadNerve, .ref aMreadKind, .ref aMpage, .ref aMtrial, .ref aMbook, .int xM_acts, .ref aMkept, .ref aMisKept, .int xM_told, .ref aMtoldMinute, .ref aMtoldHeard, .long xM_seed, .int xM_orderBest, .int xM_orderMany, .ref aMworth, .int z.2.2.1], oI aMnerve iMnerve 5 xMnerve, oI aMkind iMkind 5 xMkind, oI aMpage iMpage 13 xMpage, oI aMtrial iMtrial 13 z.2.2.2] z.1) 0 0 (va_A [oO aM 4 [.int xM_thrown, .ref aMtext, .int xM_textSize, .int xM_place, .int xM_walkers, .int xM_light, .int xM_water, .ref aMnerve, .ref aMkind, .int xM_readWalkers, .int xM_readLight, .int xM_readWater, .ref aMreadNerve, .ref aMreadKind, .ref aMpage, .ref aMtrial, .ref aMbook, .int xM_acts, .ref aMkept, .ref aMisKept, .int xM_told, .ref aMtoldMinute, .ref aMtoldHeard, .long xM_seed, .int xM_orderBest, .int xM_orderMany, .ref aMworth, .int xM_turned], oI aMnerve iMnerve 5 xMnerve, oI aMkind iMkind 5 xMkind, oI aMpage iMpage 13 xMpage, oI aMtrial iMtrial 13 xMtrial] sz) := by
  refine kMet_i (own := RX5) z (fun u => u.1) (fun u => [oO aM 4 [.int u.2.1, .ref aMtext, .int xM_textSize, .int xM_place, .int xM_walkers, .int xM_light, .int xM_water, .ref aMnerve, .ref aMkind, .int xM_readWalkers, .int xM_readLight, .int xM_readWater, .ref aMreadNerve, .ref aMreadKind, .ref aMpage, .ref aMtrial, .ref aMbook, .int xM_acts, .ref aMkept, .ref aMisKept, .int xM_told, .ref aMtoldMinute, .ref aMtoldHeard, .long xM_seed, .int xM_orderBest, .int xM_orderMany, .ref aMworth, .int u.2.2.1], oI aMnerve iMnerve 5 xMnerve, oI aMkind iMkind 5 xMkind, oI aMpage iMpage 13 xMpage, oI aMtrial iMtrial 13 u.2.2.2]) rfl (by decide) rfl ⟨rfl, rfl⟩ (Nat.le_of_ble_eq_true rfl) ?_
  intro X hXl hXD hC hQ
  subst hXl
  subst hXD
  change kG X 0 [(0, .ref aM), (1, .int j1), (2, .long j2)] [] [oO aM 4 [.int xM_thrown, .ref aMtext, .int xM_textSize, .int xM_place, .int xM_walkers, .int xM_light, .int xM_water, .ref aMnerve, .ref aMkind, .int xM_readWalkers, .int xM_readLight, .int xM_readWater, .ref aMreadNerve, .ref aMreadKind, .ref aMpage, .ref aMtrial, .ref aMbook, .int xM_acts, .ref aMkept, .ref aMisKept, .int xM_told, .ref aMtoldMinute, .ref aMtoldHeard, .long xM_seed, .int xM_orderBest, .int xM_orderMany, .ref aMworth, .int xM_turned], oI aMnerve iMnerve 5 xMnerve, oI aMkind iMkind 5 xMkind, oI aMpage iMpage 13 xMpage, oI aMtrial iMtrial 13 xMtrial]
  have hinX5 : ∀ w ∈ wsX50, w ∈ wsX5_left := fun _ h => List.mem_cons_of_mem _ (List.mem_append_right _ h)
  unfold fX5_left at hf
  refine g_aload_n hC 0 dX5_left_0 rfl rfl ?_
  refine g_iconst (v := (0 : Int32)) hC dX5_left_1 ci_0 ?_
  refine g_put (C := RX5) (T := TX5) (N := 28) (ty := .int) (ws' := [oO aM 4 [.int (0 : Int32), .ref aMtext, .int xM_textSize, .int xM_place, .int xM_walkers, .int xM_light, .int xM_water, .ref aMnerve, .ref aMkind, .int xM_readWalkers, .int xM_readLight, .int xM_readWater, .ref aMreadNerve, .ref aMreadKind, .ref aMpage, .ref aMtrial, .ref aMbook, .int xM_acts, .ref aMkept, .ref aMisKept, .int xM_told, .ref aMtoldMinute, .ref aMtoldHeard, .long xM_seed, .int xM_orderBest, .int xM_orderMany, .ref aMworth, .int xM_turned], oI aMnerve iMnerve 5 xMnerve, oI aMkind iMkind 5 xMkind, oI aMpage iMpage 13 xMpage, oI aMtrial iMtrial 13 xMtrial]) hC tyX5_ok nmX5 hinX5 0 0 rfl rfl (by decide) (List.mem_of_getElem? (i := 1) rfl) rfl rfl rfl rfl (Nat.le_of_ble_eq_true rfl) dX5_left_2 rfl ?_
  refine g_iload_n hC 1 dX5_left_5 rfl rfl ?_
  refine g_lload_n hC 2 dX5_left_6 rfl rfl ?_
  obtain ⟨z7, hz7, hf⟩ := gd_b hf
  refine g_callSi (wr := [oO aM 4 [.int (0 : Int32), .ref aMtext, .int xM_textSize, .int xM_place, .int xM_walkers, .int xM_light, .int xM_water, .ref aMnerve, .ref aMkind, .int xM_readWalkers, .int xM_readLight, .int xM_readWater, .ref aMreadNerve, .ref aMreadKind, .ref aMpage, .ref aMtrial, .ref aMbook, .int xM_acts, .ref aMkept, .ref aMisKept, .int xM_told, .ref aMtoldMinute, .ref aMtoldHeard, .long xM_seed, .int xM_orderBest, .int xM_orderMany, .ref aMworth, .int xM_turned], oI aMnerve iMnerve 5 xMnerve, oI aMkind iMkind 5 xMkind, oI aMpage iMpage 13 xMpage, oI aMtrial iMtrial 13 xMtrial]) (wn := [oO aM 4 [.int (0 : Int32), .ref aMtext, .int xM_textSize, .int xM_place, .int xM_walkers, .int xM_light, .int xM_water, .ref aMnerve, .ref aMkind, .int xM_readWalkers, .int xM_readLight, .int xM_readWater, .ref aMreadNerve, .ref aMreadKind, .ref aMpage, .ref aMtrial, .ref aMbook, .int xM_acts, .ref aMkept, .ref aMisKept, .int xM_told, .ref aMtoldMinute, .ref aMtoldHeard, .long xM_seed, .int xM_orderBest, .int xM_orderMany, .ref aMworth, .int xM_turned], oI aMnerve iMnerve 5 xMnerve, oI aMkind iMkind 5 xMkind, oI aMpage iMpage 13 xMpage, oI aMtrial iMtrial 13 xMtrial]) hC [.int j1, .long j2] (cX5_noSong_m (kl X) (kD X) j1 j2 z7 hz7) gX5_left_X5_noSong rfl kyX5_noSong rfl [] [0, 1, 2, 3, 4] [] [0, 1, 2, 3, 4] rfl rfl rfl rfl (by decide) rfl rfl rfl ⟨rfl, rfl⟩ ⟨Nat.le_of_ble_eq_true rfl, Nat.le_of_ble_eq_true rfl⟩ (Nat.le_of_ble_eq_true rfl) rfl dX5_left_7 ?_
  refine g_if_eq (tgt := 16) hC dX5_left_10 (by decide) (fun hc => ?_) (fun hc => ?_)
  · replace hf := gd_t hc hf
    refine g_aload_n hC 0 dX5_left_16 rfl rfl ?_
    obtain ⟨z17, hz17, hf⟩ := gd_b hf
    refine g_callVv (wr := [oI aMnerve iMnerve 5 xMnerve, oI aMkind iMkind 5 xMkind]) (wn := [oO aM 4 [.int (0 : Int32), .ref aMtext, .int xM_textSize, .int xM_place, .int xM_walkers, .int xM_light, .int xM_water, .ref aMnerve, .ref aMkind, .int xM_readWalkers, .int xM_readLight, .int xM_readWater, .ref aMreadNerve, .ref aMreadKind, .ref aMpage, .ref aMtrial, .ref aMbook, .int xM_acts, .ref aMkept, .ref aMisKept, .int xM_told, .ref aMtoldMinute, .ref aMtoldHeard, .long xM_seed, .int xM_orderBest, .int xM_orderMany, .ref aMworth, .int xM_turned], oI aMnerve iMnerve 5 xMnerve, oI aMkind iMkind 5 xMkind, oI aMpage iMpage 13 xMpage, oI aMtrial iMtrial 13 z17]) hC [] (cX5_begin_m (kl X) (kD X) aM aMtext aMnerve aMkind aMreadNerve aMreadKind aMpage aMtrial aMbook aMkept aMisKept aMtoldMinute aMtoldHeard aMworth iMpage iMtrial (0 : Int32) xM_textSize xM_place xM_walkers xM_light xM_water xM_readWalkers xM_readLight xM_readWater xM_acts xM_told xM_seed xM_orderBest xM_orderMany xM_turned xMpage xMtrial z17 hz17) gX5_left_X5_begin rfl kyX5_begin rfl rfl rfl (q0 := 0) rfl [0, 3, 4] [1, 2] [2, 3] [2, 0, 1, 3, 4] rfl rfl rfl rfl (by decide) rfl rfl rfl ⟨rfl, rfl⟩ ⟨Nat.le_of_ble_eq_true rfl, Nat.le_of_ble_eq_true rfl⟩ (Nat.le_of_ble_eq_true rfl) rfl dX5_left_17 ?_
    refine g_aload_n hC 0 dX5_left_20 rfl rfl ?_
    refine g_iload_n hC 1 dX5_left_21 rfl rfl ?_
    refine g_lload_n hC 2 dX5_left_22 rfl rfl ?_
    obtain ⟨z23, hz23, hf⟩ := gd_b hf
    refine g_callVi (wr := [oI aMpage iMpage 13 xMpage]) (wn := [oO aM 4 [.int (0 : Int32), .ref aMtext, .int xM_textSize, .int xM_place, .int xM_walkers, .int xM_light, .int xM_water, .ref aMnerve, .ref aMkind, .int xM_readWalkers, .int xM_readLight, .int xM_readWater, .ref aMreadNerve, .ref aMreadKind, .ref aMpage, .ref aMtrial, .ref aMbook, .int xM_acts, .ref aMkept, .ref aMisKept, .int xM_told, .ref aMtoldMinute, .ref aMtoldHeard, .long xM_seed, .int xM_orderBest, .int xM_orderMany, .ref aMworth, .int z23.2.1], oI aMnerve iMnerve 5 xMnerve, oI aMkind iMkind 5 xMkind, oI aMpage iMpage 13 xMpage, oI aMtrial iMtrial 13 z23.2.2]) hC [.int j1, .long j2] (cX5_sing_m (kl X) (kD X) aM aMtext aMnerve aMkind aMreadNerve aMreadKind aMpage aMtrial aMbook aMkept aMisKept aMtoldMinute aMtoldHeard aMworth iMnerve iMkind iMtrial (0 : Int32) xM_textSize xM_place xM_walkers xM_light xM_water xM_readWalkers xM_readLight xM_readWater xM_acts xM_told xM_seed xM_orderBest xM_orderMany xM_turned xMnerve xMkind z17 j1 j2 z23 hz23) gX5_left_X5_sing rfl kyX5_sing rfl rfl rfl (q0 := 0) rfl [0, 1, 2, 4] [3] [0, 1, 3] [1, 2, 3, 0, 4] rfl rfl rfl rfl (by decide) rfl rfl rfl ⟨rfl, rfl⟩ ⟨Nat.le_of_ble_eq_true rfl, Nat.le_of_ble_eq_true rfl⟩ (Nat.le_of_ble_eq_true rfl) rfl dX5_left_23 ?_
    refine g_pop hC dX5_left_26 rfl ?_
    refine g_aload_n hC 0 dX5_left_27 rfl rfl ?_
    refine g_get (C := RX5) (T := TX5) (N := 28) (v := .ref aMtrial) hC hinX5 0 15 rfl rfl (by decide) (List.mem_of_getElem? (i := 2) rfl) rfl dX5_left_28 ?_
    obtain ⟨z31, hz31, hf⟩ := gd_b hf
    refine g_callSi (wr := [oO aM 4 [.int (0 : Int32), .ref aMtext, .int xM_textSize, .int xM_place, .int xM_walkers, .int xM_light, .int xM_water, .ref aMnerve, .ref aMkind, .int xM_readWalkers, .int xM_readLight, .int xM_readWater, .ref aMreadNerve, .ref aMreadKind, .ref aMpage, .ref aMtrial, .ref aMbook, .int xM_acts, .ref aMkept, .ref aMisKept, .int xM_told, .ref aMtoldMinute, .ref aMtoldHeard, .long xM_seed, .int xM_orderBest, .int xM_orderMany, .ref aMworth, .int z23.2.1], oI aMnerve iMnerve 5 xMnerve, oI aMkind iMkind 5 xMkind, oI aMpage iMpage 13 xMpage]) (wn := [oO aM 4 [.int (0 : Int32), .ref aMtext, .int xM_textSize, .int xM_place, .int xM_walkers, .int xM_light, .int xM_water, .ref aMnerve, .ref aMkind, .int xM_readWalkers, .int xM_readLight, .int xM_readWater, .ref aMreadNerve, .ref aMreadKind, .ref aMpage, .ref aMtrial, .ref aMbook, .int xM_acts, .ref aMkept, .ref aMisKept, .int xM_told, .ref aMtoldMinute, .ref aMtoldHeard, .long xM_seed, .int xM_orderBest, .int xM_orderMany, .ref aMworth, .int z23.2.1], oI aMnerve iMnerve 5 xMnerve, oI aMkind iMkind 5 xMkind, oI aMpage iMpage 13 xMpage, oI aMtrial iMtrial 13 z23.2.2]) hC [.ref aMtrial] (cX5_rowOf_m (kl X) (kD X) aMtrial iMtrial z23.2.2 z31 hz31) gX5_left_X5_rowOf rfl kyX5_rowOf rfl [4] [0, 1, 2, 3] [3] [0, 1, 2, 3, 4] rfl rfl rfl rfl (by decide) rfl rfl rfl ⟨rfl, rfl⟩ ⟨Nat.le_of_ble_eq_true rfl, Nat.le_of_ble_eq_true rfl⟩ (Nat.le_of_ble_eq_true rfl) rfl dX5_left_31 ?_
    exact hQ (z31, (0 : Int32), z23.2.1, z23.2.2) _ _ (gd_s hf) dX5_left_34
  · replace hf := gd_f hc hf
    refine g_bipush (v := (-2 : Int32)) hC dX5_left_13 cb_m2 ?_
    exact hQ ((-2 : Int32), (0 : Int32), xM_turned, xMtrial) _ _ (gd_s hf) dX5_left_15
theorem kyX5_firstTurn : yX5_firstTurn.cls = RX5 ∧ yX5_firstTurn.cls ≠ "java/lang/invoke/MethodHandle" ∧ yX5_firstTurn.cls ≠ "java/lang/invoke/VarHandle" ∧ (parseMethodDescriptor yX5_firstTurn.desc).map (fun d => d.parameters.length) = some 2 := by decide +kernel
set_option maxHeartbeats 4000000 in
set_option maxRecDepth 100000 in
theorem cX5_firstTurn_m (l : Launch) (D : va_G) (aM aMtext aMnerve aMkind aMreadNerve aMreadKind aMpage aMtrial aMbook aMkept aMisKept aMtoldMinute aMtoldHeard aMworth : Nat) (iMnerve iMkind iMpage iMtrial : ClassId) (xM_thrown : Int32) (xM_textSize : Int32) (xM_place : Int32) (xM_walkers : Int32) (xM_light : Int32) (xM_water : Int32) (xM_readWalkers : Int32) (xM_readLight : Int32) (xM_readWater : Int32) (xM_acts : Int32) (xM_told : Int32) (xM_seed : Int64) (xM_orderBest : Int32) (xM_orderMany : Int32) (xM_turned : Int32) (xMnerve : Nat → Int32) (xMkind : Nat → Int32) (xMpage : Nat → Int32) (xMtrial : Nat → Int32) (j1 : Int32) (j2 : Int64) (z : Int32 × Int32 × Int32 × (Nat → Int32)) (hf : fX5_firstTurn j1 j2 xM_thrown xM_light xM_water xM_turned xMnerve xMkind xMpage xMtrial = some z) : ∀ sz : Nat, Met l yX5_firstTurn wsX5_firstTurn ({ frames := 4, cells := 0, slots := 0, locals := 97 } : Room) (kPre D [(iMnerve, .int), (iMkind, .int), (iMpage, .int), (iMtrial, .int)] [oO aM 4 [.int xM_thrown, .ref aMtext, .int xM_textSize, .int xM_place, .int xM_walkers, .int xM_light, .int xM_water, .ref aMnerve, .ref aMkind, .int xM_readWalkers, .int xM_readLight, .int xM_readWater, .ref aMreadNerve, .ref aMreadKind, .ref aMpage, .ref aMtrial, .ref aMbook, .int xM_acts, .ref aMkept, .ref aMisKept, .int xM_told, .ref aMtoldMinute, .ref aMtoldHeard, .long xM_seed, .int xM_orderBest, .int xM_orderMany, .ref aMworth, .int xM_turned], oI aMnerve iMnerve 5 xMnerve, oI aMkind iMkind 5 xMkind, oI aMpage iMpage 13 xMpage, oI aMtrial iMtrial 13 xMtrial] sz [.ref aM, .int j1, .long j2]) (kQi D [(iMnerve, .int), (iMkind, .int), (iMpage, .int), (iMtrial, .int)] [oO aM 4 [.int xM_thrown, .ref aMtext, .int xM_textSize, .int xM_place, .int xM_walkers, .int xM_light, .int xM_water, .ref aMnerve, .ref aMkind, .int xM_readWalkers, .int xM_readLight, .int xM_readWater, .ref aMreadNerve, .ref aMreadKind, .ref aMpage, .ref aMtrial, .ref aMbook, .int xM_acts, .ref aMkept, .ref aMisKept, .int xM_told, .ref aMtoldMinute, .ref aMtoldHeard, .long xM_seed, .int xM_orderBest, .int xM_orderMany, .ref aMworth, .int xM_turned], oI aMnerve iMnerve 5 xMnerve, oI aMkind iMkind 5 xMkind, oI aMpage iMpage 13 xMpage, oI aMtrial iMtrial 13 xMtrial] sz [oO aM 4 [.int z.2.1, .ref aMtext, .int xM_textSize, .int xM_place, .int xM_walkers, .int xM_light, .int xM_water, .ref aMnerve, .ref aMkind, .int xM_readWalkers, .int xM_readLight, .int xM_readWater, .ref aMreadNerve, .ref aMreadKind, .ref aMpage, .ref aMtrial, .ref aMbook, .int xM_acts, .ref aMkept, .ref aMisKept, .int xM_told, .ref aMtoldMinute, .ref aMtoldHeard, .long xM_seed, .int xM_orderBest, .int xM_orderMany, .ref aMworth, .int z.2.2.1], oI aMnerve iMnerve 5 xMnerve, oI aMkind iMkind 5 xMkind, oI aMpage iMpage 13 xMpage, oI aMtrial iMtrial 13 z.2.2.2] z.1) 0 0 (va_A [oO aM 4 [.int xM_thrown, .ref aMtext, .int xM_textSize, .int xM_place, .int xM_walkers, .int xM_light, .int xM_water, .ref aMnerve, .ref aMkind, .int xM_readWalkers, .int xM_readLight, .int xM_readWater, .ref aMreadNerve, .ref aMreadKind, .ref aMpage, .ref aMtrial, .ref aMbook, .int xM_acts, .ref aMkept, .ref aMisKept, .int xM_told, .ref aMtoldMinute, .ref aMtoldHeard, .long xM_seed, .int xM_orderBest, .int xM_orderMany, .ref aMworth, .int xM_turned], oI aMnerve iMnerve 5 xMnerve, oI aMkind iMkind 5 xMkind, oI aMpage iMpage 13 xMpage, oI aMtrial iMtrial 13 xMtrial] sz) := by
  refine kMet_i (own := RX5) z (fun u => u.1) (fun u => [oO aM 4 [.int u.2.1, .ref aMtext, .int xM_textSize, .int xM_place, .int xM_walkers, .int xM_light, .int xM_water, .ref aMnerve, .ref aMkind, .int xM_readWalkers, .int xM_readLight, .int xM_readWater, .ref aMreadNerve, .ref aMreadKind, .ref aMpage, .ref aMtrial, .ref aMbook, .int xM_acts, .ref aMkept, .ref aMisKept, .int xM_told, .ref aMtoldMinute, .ref aMtoldHeard, .long xM_seed, .int xM_orderBest, .int xM_orderMany, .ref aMworth, .int u.2.2.1], oI aMnerve iMnerve 5 xMnerve, oI aMkind iMkind 5 xMkind, oI aMpage iMpage 13 xMpage, oI aMtrial iMtrial 13 u.2.2.2]) rfl (by decide) rfl ⟨rfl, rfl⟩ (Nat.le_of_ble_eq_true rfl) ?_
  intro X hXl hXD hC hQ
  subst hXl
  subst hXD
  change kG X 0 [(0, .ref aM), (1, .int j1), (2, .long j2)] [] [oO aM 4 [.int xM_thrown, .ref aMtext, .int xM_textSize, .int xM_place, .int xM_walkers, .int xM_light, .int xM_water, .ref aMnerve, .ref aMkind, .int xM_readWalkers, .int xM_readLight, .int xM_readWater, .ref aMreadNerve, .ref aMreadKind, .ref aMpage, .ref aMtrial, .ref aMbook, .int xM_acts, .ref aMkept, .ref aMisKept, .int xM_told, .ref aMtoldMinute, .ref aMtoldHeard, .long xM_seed, .int xM_orderBest, .int xM_orderMany, .ref aMworth, .int xM_turned], oI aMnerve iMnerve 5 xMnerve, oI aMkind iMkind 5 xMkind, oI aMpage iMpage 13 xMpage, oI aMtrial iMtrial 13 xMtrial]
  have hinX5 : ∀ w ∈ wsX50, w ∈ wsX5_firstTurn := fun _ h => List.mem_cons_of_mem _ (List.mem_append_right _ h)
  unfold fX5_firstTurn at hf
  refine g_aload_n hC 0 dX5_firstTurn_0 rfl rfl ?_
  refine g_iconst (v := (0 : Int32)) hC dX5_firstTurn_1 ci_0 ?_
  refine g_put (C := RX5) (T := TX5) (N := 28) (ty := .int) (ws' := [oO aM 4 [.int (0 : Int32), .ref aMtext, .int xM_textSize, .int xM_place, .int xM_walkers, .int xM_light, .int xM_water, .ref aMnerve, .ref aMkind, .int xM_readWalkers, .int xM_readLight, .int xM_readWater, .ref aMreadNerve, .ref aMreadKind, .ref aMpage, .ref aMtrial, .ref aMbook, .int xM_acts, .ref aMkept, .ref aMisKept, .int xM_told, .ref aMtoldMinute, .ref aMtoldHeard, .long xM_seed, .int xM_orderBest, .int xM_orderMany, .ref aMworth, .int xM_turned], oI aMnerve iMnerve 5 xMnerve, oI aMkind iMkind 5 xMkind, oI aMpage iMpage 13 xMpage, oI aMtrial iMtrial 13 xMtrial]) hC tyX5_ok nmX5 hinX5 0 0 rfl rfl (by decide) (List.mem_of_getElem? (i := 1) rfl) rfl rfl rfl rfl (Nat.le_of_ble_eq_true rfl) dX5_firstTurn_2 rfl ?_
  refine g_iload_n hC 1 dX5_firstTurn_5 rfl rfl ?_
  refine g_lload_n hC 2 dX5_firstTurn_6 rfl rfl ?_
  obtain ⟨z7, hz7, hf⟩ := gd_b hf
  refine g_callSi (wr := [oO aM 4 [.int (0 : Int32), .ref aMtext, .int xM_textSize, .int xM_place, .int xM_walkers, .int xM_light, .int xM_water, .ref aMnerve, .ref aMkind, .int xM_readWalkers, .int xM_readLight, .int xM_readWater, .ref aMreadNerve, .ref aMreadKind, .ref aMpage, .ref aMtrial, .ref aMbook, .int xM_acts, .ref aMkept, .ref aMisKept, .int xM_told, .ref aMtoldMinute, .ref aMtoldHeard, .long xM_seed, .int xM_orderBest, .int xM_orderMany, .ref aMworth, .int xM_turned], oI aMnerve iMnerve 5 xMnerve, oI aMkind iMkind 5 xMkind, oI aMpage iMpage 13 xMpage, oI aMtrial iMtrial 13 xMtrial]) (wn := [oO aM 4 [.int (0 : Int32), .ref aMtext, .int xM_textSize, .int xM_place, .int xM_walkers, .int xM_light, .int xM_water, .ref aMnerve, .ref aMkind, .int xM_readWalkers, .int xM_readLight, .int xM_readWater, .ref aMreadNerve, .ref aMreadKind, .ref aMpage, .ref aMtrial, .ref aMbook, .int xM_acts, .ref aMkept, .ref aMisKept, .int xM_told, .ref aMtoldMinute, .ref aMtoldHeard, .long xM_seed, .int xM_orderBest, .int xM_orderMany, .ref aMworth, .int xM_turned], oI aMnerve iMnerve 5 xMnerve, oI aMkind iMkind 5 xMkind, oI aMpage iMpage 13 xMpage, oI aMtrial iMtrial 13 xMtrial]) hC [.int j1, .long j2] (cX5_noSong_m (kl X) (kD X) j1 j2 z7 hz7) gX5_firstTurn_X5_noSong rfl kyX5_noSong rfl [] [0, 1, 2, 3, 4] [] [0, 1, 2, 3, 4] rfl rfl rfl rfl (by decide) rfl rfl rfl ⟨rfl, rfl⟩ ⟨Nat.le_of_ble_eq_true rfl, Nat.le_of_ble_eq_true rfl⟩ (Nat.le_of_ble_eq_true rfl) rfl dX5_firstTurn_7 ?_
  refine g_if_eq (tgt := 16) hC dX5_firstTurn_10 (by decide) (fun hc => ?_) (fun hc => ?_)
  · replace hf := gd_t hc hf
    refine g_aload_n hC 0 dX5_firstTurn_16 rfl rfl ?_
    obtain ⟨z17, hz17, hf⟩ := gd_b hf
    refine g_callVv (wr := [oI aMnerve iMnerve 5 xMnerve, oI aMkind iMkind 5 xMkind]) (wn := [oO aM 4 [.int (0 : Int32), .ref aMtext, .int xM_textSize, .int xM_place, .int xM_walkers, .int xM_light, .int xM_water, .ref aMnerve, .ref aMkind, .int xM_readWalkers, .int xM_readLight, .int xM_readWater, .ref aMreadNerve, .ref aMreadKind, .ref aMpage, .ref aMtrial, .ref aMbook, .int xM_acts, .ref aMkept, .ref aMisKept, .int xM_told, .ref aMtoldMinute, .ref aMtoldHeard, .long xM_seed, .int xM_orderBest, .int xM_orderMany, .ref aMworth, .int xM_turned], oI aMnerve iMnerve 5 xMnerve, oI aMkind iMkind 5 xMkind, oI aMpage iMpage 13 xMpage, oI aMtrial iMtrial 13 z17]) hC [] (cX5_begin_m (kl X) (kD X) aM aMtext aMnerve aMkind aMreadNerve aMreadKind aMpage aMtrial aMbook aMkept aMisKept aMtoldMinute aMtoldHeard aMworth iMpage iMtrial (0 : Int32) xM_textSize xM_place xM_walkers xM_light xM_water xM_readWalkers xM_readLight xM_readWater xM_acts xM_told xM_seed xM_orderBest xM_orderMany xM_turned xMpage xMtrial z17 hz17) gX5_firstTurn_X5_begin rfl kyX5_begin rfl rfl rfl (q0 := 0) rfl [0, 3, 4] [1, 2] [2, 3] [2, 0, 1, 3, 4] rfl rfl rfl rfl (by decide) rfl rfl rfl ⟨rfl, rfl⟩ ⟨Nat.le_of_ble_eq_true rfl, Nat.le_of_ble_eq_true rfl⟩ (Nat.le_of_ble_eq_true rfl) rfl dX5_firstTurn_17 ?_
    refine g_aload_n hC 0 dX5_firstTurn_20 rfl rfl ?_
    refine g_iload_n hC 1 dX5_firstTurn_21 rfl rfl ?_
    refine g_lload_n hC 2 dX5_firstTurn_22 rfl rfl ?_
    obtain ⟨z23, hz23, hf⟩ := gd_b hf
    refine g_callVi (wr := [oI aMpage iMpage 13 xMpage]) (wn := [oO aM 4 [.int (0 : Int32), .ref aMtext, .int xM_textSize, .int xM_place, .int xM_walkers, .int xM_light, .int xM_water, .ref aMnerve, .ref aMkind, .int xM_readWalkers, .int xM_readLight, .int xM_readWater, .ref aMreadNerve, .ref aMreadKind, .ref aMpage, .ref aMtrial, .ref aMbook, .int xM_acts, .ref aMkept, .ref aMisKept, .int xM_told, .ref aMtoldMinute, .ref aMtoldHeard, .long xM_seed, .int xM_orderBest, .int xM_orderMany, .ref aMworth, .int z23.2.1], oI aMnerve iMnerve 5 xMnerve, oI aMkind iMkind 5 xMkind, oI aMpage iMpage 13 xMpage, oI aMtrial iMtrial 13 z23.2.2]) hC [.int j1, .long j2] (cX5_sing_m (kl X) (kD X) aM aMtext aMnerve aMkind aMreadNerve aMreadKind aMpage aMtrial aMbook aMkept aMisKept aMtoldMinute aMtoldHeard aMworth iMnerve iMkind iMtrial (0 : Int32) xM_textSize xM_place xM_walkers xM_light xM_water xM_readWalkers xM_readLight xM_readWater xM_acts xM_told xM_seed xM_orderBest xM_orderMany xM_turned xMnerve xMkind z17 j1 j2 z23 hz23) gX5_firstTurn_X5_sing rfl kyX5_sing rfl rfl rfl (q0 := 0) rfl [0, 1, 2, 4] [3] [0, 1, 3] [1, 2, 3, 0, 4] rfl rfl rfl rfl (by decide) rfl rfl rfl ⟨rfl, rfl⟩ ⟨Nat.le_of_ble_eq_true rfl, Nat.le_of_ble_eq_true rfl⟩ (Nat.le_of_ble_eq_true rfl) rfl dX5_firstTurn_23 ?_
    exact hQ (z23.1, (0 : Int32), z23.2.1, z23.2.2) _ _ (gd_s hf) dX5_firstTurn_26
  · replace hf := gd_f hc hf
    refine g_bipush (v := (-2 : Int32)) hC dX5_firstTurn_13 cb_m2 ?_
    exact hQ ((-2 : Int32), (0 : Int32), xM_turned, xMtrial) _ _ (gd_s hf) dX5_firstTurn_15
theorem kyX5_hush : yX5_hush.cls = RX5 ∧ yX5_hush.cls ≠ "java/lang/invoke/MethodHandle" ∧ yX5_hush.cls ≠ "java/lang/invoke/VarHandle" ∧ (parseMethodDescriptor yX5_hush.desc).map (fun d => d.parameters.length) = some 0 := by decide +kernel
set_option maxHeartbeats 4000000 in
set_option maxRecDepth 100000 in
theorem cX5_hush_m (l : Launch) (D : va_G) (aM aMtext aMnerve aMkind aMreadNerve aMreadKind aMpage aMtrial aMbook aMkept aMisKept aMtoldMinute aMtoldHeard aMworth : Nat) (iMtrial : ClassId) (xM_thrown : Int32) (xM_textSize : Int32) (xM_place : Int32) (xM_walkers : Int32) (xM_light : Int32) (xM_water : Int32) (xM_readWalkers : Int32) (xM_readLight : Int32) (xM_readWater : Int32) (xM_acts : Int32) (xM_told : Int32) (xM_seed : Int64) (xM_orderBest : Int32) (xM_orderMany : Int32) (xM_turned : Int32) (xMtrial : Nat → Int32)  (z : (Nat → Int32)) (hf : fX5_hush xMtrial = some z) : ∀ sz : Nat, Met l yX5_hush wsX5_hush ({ frames := 0, cells := 0, slots := 0, locals := 0 } : Room) (kPre D [(iMtrial, .int)] [oO aM 4 [.int xM_thrown, .ref aMtext, .int xM_textSize, .int xM_place, .int xM_walkers, .int xM_light, .int xM_water, .ref aMnerve, .ref aMkind, .int xM_readWalkers, .int xM_readLight, .int xM_readWater, .ref aMreadNerve, .ref aMreadKind, .ref aMpage, .ref aMtrial, .ref aMbook, .int xM_acts, .ref aMkept, .ref aMisKept, .int xM_told, .ref aMtoldMinute, .ref aMtoldHeard, .long xM_seed, .int xM_orderBest, .int xM_orderMany, .ref aMworth, .int xM_turned], oI aMtrial iMtrial 13 xMtrial] sz [.ref aM]) (kQv D [(iMtrial, .int)] [oO aM 4 [.int xM_thrown, .ref aMtext, .int xM_textSize, .int xM_place, .int xM_walkers, .int xM_light, .int xM_water, .ref aMnerve, .ref aMkind, .int xM_readWalkers, .int xM_readLight, .int xM_readWater, .ref aMreadNerve, .ref aMreadKind, .ref aMpage, .ref aMtrial, .ref aMbook, .int xM_acts, .ref aMkept, .ref aMisKept, .int xM_told, .ref aMtoldMinute, .ref aMtoldHeard, .long xM_seed, .int xM_orderBest, .int xM_orderMany, .ref aMworth, .int xM_turned], oI aMtrial iMtrial 13 xMtrial] sz [oO aM 4 [.int xM_thrown, .ref aMtext, .int xM_textSize, .int xM_place, .int xM_walkers, .int xM_light, .int xM_water, .ref aMnerve, .ref aMkind, .int xM_readWalkers, .int xM_readLight, .int xM_readWater, .ref aMreadNerve, .ref aMreadKind, .ref aMpage, .ref aMtrial, .ref aMbook, .int xM_acts, .ref aMkept, .ref aMisKept, .int xM_told, .ref aMtoldMinute, .ref aMtoldHeard, .long xM_seed, .int xM_orderBest, .int xM_orderMany, .ref aMworth, .int xM_turned], oI aMtrial iMtrial 13 z]) 0 0 (va_A [oO aM 4 [.int xM_thrown, .ref aMtext, .int xM_textSize, .int xM_place, .int xM_walkers, .int xM_light, .int xM_water, .ref aMnerve, .ref aMkind, .int xM_readWalkers, .int xM_readLight, .int xM_readWater, .ref aMreadNerve, .ref aMreadKind, .ref aMpage, .ref aMtrial, .ref aMbook, .int xM_acts, .ref aMkept, .ref aMisKept, .int xM_told, .ref aMtoldMinute, .ref aMtoldHeard, .long xM_seed, .int xM_orderBest, .int xM_orderMany, .ref aMworth, .int xM_turned], oI aMtrial iMtrial 13 xMtrial] sz) := by
  refine kMet_v (own := RX5) z (fun u => [oO aM 4 [.int xM_thrown, .ref aMtext, .int xM_textSize, .int xM_place, .int xM_walkers, .int xM_light, .int xM_water, .ref aMnerve, .ref aMkind, .int xM_readWalkers, .int xM_readLight, .int xM_readWater, .ref aMreadNerve, .ref aMreadKind, .ref aMpage, .ref aMtrial, .ref aMbook, .int xM_acts, .ref aMkept, .ref aMisKept, .int xM_told, .ref aMtoldMinute, .ref aMtoldHeard, .long xM_seed, .int xM_orderBest, .int xM_orderMany, .ref aMworth, .int xM_turned], oI aMtrial iMtrial 13 u]) rfl (by decide) rfl ⟨rfl, rfl⟩ (Nat.le_of_ble_eq_true rfl) ?_
  intro X hXl hXD hC hQ
  subst hXl
  subst hXD
  change kG X 0 [(0, .ref aM)] [] [oO aM 4 [.int xM_thrown, .ref aMtext, .int xM_textSize, .int xM_place, .int xM_walkers, .int xM_light, .int xM_water, .ref aMnerve, .ref aMkind, .int xM_readWalkers, .int xM_readLight, .int xM_readWater, .ref aMreadNerve, .ref aMreadKind, .ref aMpage, .ref aMtrial, .ref aMbook, .int xM_acts, .ref aMkept, .ref aMisKept, .int xM_told, .ref aMtoldMinute, .ref aMtoldHeard, .long xM_seed, .int xM_orderBest, .int xM_orderMany, .ref aMworth, .int xM_turned], oI aMtrial iMtrial 13 xMtrial]
  have hinX5 : ∀ w ∈ wsX50, w ∈ wsX5_hush := fun _ h => List.mem_cons_of_mem _ (List.mem_append_right _ h)
  have t2 : ∀  (n : Nat) (j1 : Int32) (xMtrial : Nat → Int32), lp (fun _ _ => none) (fX5_hush_b2_S ) n j1 xMtrial = some z → kG X 2 [(0, .ref aM), (1, .int j1)] [] [oO aM 4 [.int xM_thrown, .ref aMtext, .int xM_textSize, .int xM_place, .int xM_walkers, .int xM_light, .int xM_water, .ref aMnerve, .ref aMkind, .int xM_readWalkers, .int xM_readLight, .int xM_readWater, .ref aMreadNerve, .ref aMreadKind, .ref aMpage, .ref aMtrial, .ref aMbook, .int xM_acts, .ref aMkept, .ref aMisKept, .int xM_told, .ref aMtoldMinute, .ref aMtoldHeard, .long xM_seed, .int xM_orderBest, .int xM_orderMany, .ref aMworth, .int xM_turned], oI aMtrial iMtrial 13 xMtrial] := by
    intro  n
    induction n with
    | zero => intro j1 xMtrial hf; cases hf
    | succ n hk2 =>
      intro j1 xMtrial hf
      rw [lp_s] at hf
      revert hf hk2
      generalize lp (fun _ _ => none) (fX5_hush_b2_S ) n = k2
      intro hk2 hf
      unfold fX5_hush_b2_S at hf
      refine g_iload_n hC 1 dX5_hush_2 rfl rfl ?_
      refine g_iconst (v := (5 : Int32)) hC dX5_hush_3 ci_5 ?_
      refine g_icmp_ge (tgt := 23) hC dX5_hush_4 (by decide) (fun hc => ?_) (fun hc => ?_)
      · replace hf := gd_t hc hf
        exact hQ (xMtrial) _ _ (gd_s hf) dX5_hush_23
      · replace hf := gd_f hc hf
        refine g_aload_n hC 0 dX5_hush_7 rfl rfl ?_
        refine g_get (C := RX5) (T := TX5) (N := 28) (v := .ref aMtrial) hC hinX5 0 15 rfl rfl (by decide) (List.mem_of_getElem? (i := 1) rfl) rfl dX5_hush_8 ?_
        refine g_bipush (v := (6 : Int32)) hC dX5_hush_11 cb_6 ?_
        refine g_iload_n hC 1 dX5_hush_13 rfl rfl ?_
        refine g_iadd hC dX5_hush_14 ?_
        refine g_iconst (v := (0 : Int32)) hC dX5_hush_15 ci_0 ?_
        obtain ⟨hg, hf⟩ := gd_ga hf
        refine g_iast (ws' := [oO aM 4 [.int xM_thrown, .ref aMtext, .int xM_textSize, .int xM_place, .int xM_walkers, .int xM_light, .int xM_water, .ref aMnerve, .ref aMkind, .int xM_readWalkers, .int xM_readLight, .int xM_readWater, .ref aMreadNerve, .ref aMreadKind, .ref aMpage, .ref aMtrial, .ref aMbook, .int xM_acts, .ref aMkept, .ref aMisKept, .int xM_told, .ref aMtoldMinute, .ref aMtoldHeard, .long xM_seed, .int xM_orderBest, .int xM_orderMany, .ref aMworth, .int xM_turned], oI aMtrial iMtrial 13 (upd xMtrial ((6 : Int32) + j1).toNatClampNeg (0 : Int32))]) hC 1 0 hg rfl rfl dX5_hush_16 rfl ?_
        refine g_iinc (v := (j1 + (1 : Int32))) (lv' := [(1, .int (j1 + (1 : Int32))), (0, .ref aM)]) hC 1 dX5_hush_17 rfl (ii _ ci_1) (by decide) rfl ?_
        refine g_goto (tgt := 2) hC dX5_hush_20 (by decide) ?_
        refine g_lv (lv' := [(0, .ref aM), (1, .int (j1 + (1 : Int32)))]) [1, 0] rfl ?_
        exact hk2 (j1 + (1 : Int32)) (upd xMtrial ((6 : Int32) + j1).toNatClampNeg (0 : Int32)) hf
  unfold fX5_hush at hf
  refine g_iconst (v := (0 : Int32)) hC dX5_hush_0 ci_0 ?_
  refine g_istore_n (lv' := [(1, .int (0 : Int32)), (0, .ref aM)]) hC dX5_hush_1 rfl (by decide) rfl ?_
  refine g_lv (lv' := [(0, .ref aM), (1, .int (0 : Int32))]) [1, 0] rfl ?_
  exact t2  fu (0 : Int32) xMtrial hf
theorem kyX5_findOrder : yX5_findOrder.cls = RX5 ∧ yX5_findOrder.cls ≠ "java/lang/invoke/MethodHandle" ∧ yX5_findOrder.cls ≠ "java/lang/invoke/VarHandle" ∧ (parseMethodDescriptor yX5_findOrder.desc).map (fun d => d.parameters.length) = some 2 := by decide +kernel
set_option maxHeartbeats 4000000 in
set_option maxRecDepth 100000 in
theorem cX5_findOrder_m (l : Launch) (D : va_G) (aM aMtext aMnerve aMkind aMreadNerve aMreadKind aMpage aMtrial aMbook aMkept aMisKept aMtoldMinute aMtoldHeard aMworth : Nat) (iMnerve iMkind iMpage iMtrial : ClassId) (xM_thrown : Int32) (xM_textSize : Int32) (xM_place : Int32) (xM_walkers : Int32) (xM_light : Int32) (xM_water : Int32) (xM_readWalkers : Int32) (xM_readLight : Int32) (xM_readWater : Int32) (xM_acts : Int32) (xM_told : Int32) (xM_seed : Int64) (xM_orderBest : Int32) (xM_orderMany : Int32) (xM_turned : Int32) (xMnerve : Nat → Int32) (xMkind : Nat → Int32) (xMpage : Nat → Int32) (xMtrial : Nat → Int32) (j1 : Int32) (j2 : Int64) (z : Int32 × Int32 × Int32 × (Nat → Int32)) (hf : fX5_findOrder j1 j2 xM_light xM_water xM_orderBest xM_orderMany xM_turned xMnerve xMkind xMpage xMtrial = some z) : ∀ sz : Nat, Met l yX5_findOrder wsX5_findOrder ({ frames := 4, cells := 0, slots := 0, locals := 97 } : Room) (kPre D [(iMnerve, .int), (iMkind, .int), (iMpage, .int), (iMtrial, .int)] [oO aM 4 [.int xM_thrown, .ref aMtext, .int xM_textSize, .int xM_place, .int xM_walkers, .int xM_light, .int xM_water, .ref aMnerve, .ref aMkind, .int xM_readWalkers, .int xM_readLight, .int xM_readWater, .ref aMreadNerve, .ref aMreadKind, .ref aMpage, .ref aMtrial, .ref aMbook, .int xM_acts, .ref aMkept, .ref aMisKept, .int xM_told, .ref aMtoldMinute, .ref aMtoldHeard, .long xM_seed, .int xM_orderBest, .int xM_orderMany, .ref aMworth, .int xM_turned], oI aMnerve iMnerve 5 xMnerve, oI aMkind iMkind 5 xMkind, oI aMpage iMpage 13 xMpage, oI aMtrial iMtrial 13 xMtrial] sz [.ref aM, .int j1, .long j2]) (kQv D [(iMnerve, .int), (iMkind, .int), (iMpage, .int), (iMtrial, .int)] [oO aM 4 [.int xM_thrown, .ref aMtext, .int xM_textSize, .int xM_place, .int xM_walkers, .int xM_light, .int xM_water, .ref aMnerve, .ref aMkind, .int xM_readWalkers, .int xM_readLight, .int xM_readWater, .ref aMreadNerve, .ref aMreadKind, .ref aMpage, .ref aMtrial, .ref aMbook, .int xM_acts, .ref aMkept, .ref aMisKept, .int xM_told, .ref aMtoldMinute, .ref aMtoldHeard, .long xM_seed, .int xM_orderBest, .int xM_orderMany, .ref aMworth, .int xM_turned], oI aMnerve iMnerve 5 xMnerve, oI aMkind iMkind 5 xMkind, oI aMpage iMpage 13 xMpage, oI aMtrial iMtrial 13 xMtrial] sz [oO aM 4 [.int xM_thrown, .ref aMtext, .int xM_textSize, .int xM_place, .int xM_walkers, .int xM_light, .int xM_water, .ref aMnerve, .ref aMkind, .int xM_readWalkers, .int xM_readLight, .int xM_readWater, .ref aMreadNerve, .ref aMreadKind, .ref aMpage, .ref aMtrial, .ref aMbook, .int xM_acts, .ref aMkept, .ref aMisKept, .int xM_told, .ref aMtoldMinute, .ref aMtoldHeard, .long xM_seed, .int z.1, .int z.2.1, .ref aMworth, .int z.2.2.1], oI aMnerve iMnerve 5 xMnerve, oI aMkind iMkind 5 xMkind, oI aMpage iMpage 13 xMpage, oI aMtrial iMtrial 13 z.2.2.2]) 0 0 (va_A [oO aM 4 [.int xM_thrown, .ref aMtext, .int xM_textSize, .int xM_place, .int xM_walkers, .int xM_light, .int xM_water, .ref aMnerve, .ref aMkind, .int xM_readWalkers, .int xM_readLight, .int xM_readWater, .ref aMreadNerve, .ref aMreadKind, .ref aMpage, .ref aMtrial, .ref aMbook, .int xM_acts, .ref aMkept, .ref aMisKept, .int xM_told, .ref aMtoldMinute, .ref aMtoldHeard, .long xM_seed, .int xM_orderBest, .int xM_orderMany, .ref aMworth, .int xM_turned], oI aMnerve iMnerve 5 xMnerve, oI aMkind iMkind 5 xMkind, oI aMpage iMpage 13 xMpage, oI aMtrial iMtrial 13 xMtrial] sz) := by
  refine kMet_v (own := RX5) z (fun u => [oO aM 4 [.int xM_thrown, .ref aMtext, .int xM_textSize, .int xM_place, .int xM_walkers, .int xM_light, .int xM_water, .ref aMnerve, .ref aMkind, .int xM_readWalkers, .int xM_readLight, .int xM_readWater, .ref aMreadNerve, .ref aMreadKind, .ref aMpage, .ref aMtrial, .ref aMbook, .int xM_acts, .ref aMkept, .ref aMisKept, .int xM_told, .ref aMtoldMinute, .ref aMtoldHeard, .long xM_seed, .int u.1, .int u.2.1, .ref aMworth, .int u.2.2.1], oI aMnerve iMnerve 5 xMnerve, oI aMkind iMkind 5 xMkind, oI aMpage iMpage 13 xMpage, oI aMtrial iMtrial 13 u.2.2.2]) rfl (by decide) rfl ⟨rfl, rfl⟩ (Nat.le_of_ble_eq_true rfl) ?_
  intro X hXl hXD hC hQ
  subst hXl
  subst hXD
  change kG X 0 [(0, .ref aM), (1, .int j1), (2, .long j2)] [] [oO aM 4 [.int xM_thrown, .ref aMtext, .int xM_textSize, .int xM_place, .int xM_walkers, .int xM_light, .int xM_water, .ref aMnerve, .ref aMkind, .int xM_readWalkers, .int xM_readLight, .int xM_readWater, .ref aMreadNerve, .ref aMreadKind, .ref aMpage, .ref aMtrial, .ref aMbook, .int xM_acts, .ref aMkept, .ref aMisKept, .int xM_told, .ref aMtoldMinute, .ref aMtoldHeard, .long xM_seed, .int xM_orderBest, .int xM_orderMany, .ref aMworth, .int xM_turned], oI aMnerve iMnerve 5 xMnerve, oI aMkind iMkind 5 xMkind, oI aMpage iMpage 13 xMpage, oI aMtrial iMtrial 13 xMtrial]
  have hinX5 : ∀ w ∈ wsX50, w ∈ wsX5_findOrder := fun _ h => List.mem_cons_of_mem _ (List.mem_append_right _ h)
  have t226 : ∀ (k57 : Int32 → Int64 → Int32 → Int32 → Int32 → Int32 → Int32 → Int32 → (Nat → Int32) → Option (Int32 × Int32 × Int32 × (Nat → Int32))) (hk57 : ∀ (j1 : Int32) (j2 : Int64) (j4 : Int32) (j5 : Int32) (j6 : Int32) (xM_orderBest : Int32) (xM_orderMany : Int32) (xM_turned : Int32) (xMtrial : Nat → Int32), k57 j1 j2 j4 j5 j6 xM_orderBest xM_orderMany xM_turned xMtrial = some z → kG X 57 [(0, .ref aM), (1, .int j1), (2, .long j2), (4, .int j4), (5, .int j5), (6, .int j6)] [] [oO aM 4 [.int xM_thrown, .ref aMtext, .int xM_textSize, .int xM_place, .int xM_walkers, .int xM_light, .int xM_water, .ref aMnerve, .ref aMkind, .int xM_readWalkers, .int xM_readLight, .int xM_readWater, .ref aMreadNerve, .ref aMreadKind, .ref aMpage, .ref aMtrial, .ref aMbook, .int xM_acts, .ref aMkept, .ref aMisKept, .int xM_told, .ref aMtoldMinute, .ref aMtoldHeard, .long xM_seed, .int xM_orderBest, .int xM_orderMany, .ref aMworth, .int xM_turned], oI aMnerve iMnerve 5 xMnerve, oI aMkind iMkind 5 xMkind, oI aMpage iMpage 13 xMpage, oI aMtrial iMtrial 13 xMtrial]) (j1 : Int32) (j2 : Int64) (j4 : Int32) (j5 : Int32) (j6 : Int32) (xM_orderBest : Int32) (xM_orderMany : Int32) (xM_turned : Int32) (xMtrial : Nat → Int32), fX5_findOrder_b226 xM_light xM_water xMnerve xMkind xMpage k57 j1 j2 j4 j5 j6 xM_orderBest xM_orderMany xM_turned xMtrial = some z → kG X 226 [(0, .ref aM), (1, .int j1), (2, .long j2), (4, .int j4), (5, .int j5), (6, .int j6)] [] [oO aM 4 [.int xM_thrown, .ref aMtext, .int xM_textSize, .int xM_place, .int xM_walkers, .int xM_light, .int xM_water, .ref aMnerve, .ref aMkind, .int xM_readWalkers, .int xM_readLight, .int xM_readWater, .ref aMreadNerve, .ref aMreadKind, .ref aMpage, .ref aMtrial, .ref aMbook, .int xM_acts, .ref aMkept, .ref aMisKept, .int xM_told, .ref aMtoldMinute, .ref aMtoldHeard, .long xM_seed, .int xM_orderBest, .int xM_orderMany, .ref aMworth, .int xM_turned], oI aMnerve iMnerve 5 xMnerve, oI aMkind iMkind 5 xMkind, oI aMpage iMpage 13 xMpage, oI aMtrial iMtrial 13 xMtrial] := by
    intro k57 hk57 j1 j2 j4 j5 j6 xM_orderBest xM_orderMany xM_turned xMtrial hf
    unfold fX5_findOrder_b226 at hf
    refine g_iinc (v := (j6 + (1 : Int32))) (lv' := [(6, .int (j6 + (1 : Int32))), (0, .ref aM), (1, .int j1), (2, .long j2), (4, .int j4), (5, .int j5)]) hC 5 dX5_findOrder_226 rfl (ii _ ci_1) (by decide) rfl ?_
    refine g_goto (tgt := 57) hC dX5_findOrder_229 (by decide) ?_
    refine g_lv (lv' := [(0, .ref aM), (1, .int j1), (2, .long j2), (4, .int j4), (5, .int j5), (6, .int (j6 + (1 : Int32)))]) [1, 2, 3, 4, 5, 0] rfl ?_
    exact hk57 j1 j2 j4 j5 (j6 + (1 : Int32)) xM_orderBest xM_orderMany xM_turned xMtrial hf
  have t223 : ∀ (k57 : Int32 → Int64 → Int32 → Int32 → Int32 → Int32 → Int32 → Int32 → (Nat → Int32) → Option (Int32 × Int32 × Int32 × (Nat → Int32))) (hk57 : ∀ (j1 : Int32) (j2 : Int64) (j4 : Int32) (j5 : Int32) (j6 : Int32) (xM_orderBest : Int32) (xM_orderMany : Int32) (xM_turned : Int32) (xMtrial : Nat → Int32), k57 j1 j2 j4 j5 j6 xM_orderBest xM_orderMany xM_turned xMtrial = some z → kG X 57 [(0, .ref aM), (1, .int j1), (2, .long j2), (4, .int j4), (5, .int j5), (6, .int j6)] [] [oO aM 4 [.int xM_thrown, .ref aMtext, .int xM_textSize, .int xM_place, .int xM_walkers, .int xM_light, .int xM_water, .ref aMnerve, .ref aMkind, .int xM_readWalkers, .int xM_readLight, .int xM_readWater, .ref aMreadNerve, .ref aMreadKind, .ref aMpage, .ref aMtrial, .ref aMbook, .int xM_acts, .ref aMkept, .ref aMisKept, .int xM_told, .ref aMtoldMinute, .ref aMtoldHeard, .long xM_seed, .int xM_orderBest, .int xM_orderMany, .ref aMworth, .int xM_turned], oI aMnerve iMnerve 5 xMnerve, oI aMkind iMkind 5 xMkind, oI aMpage iMpage 13 xMpage, oI aMtrial iMtrial 13 xMtrial]) (j1 : Int32) (j2 : Int64) (j4 : Int32) (j5 : Int32) (j6 : Int32) (y0 : Int32) (xM_orderBest : Int32) (xM_orderMany : Int32) (xM_turned : Int32) (xMtrial : Nat → Int32), fX5_findOrder_b223 xM_light xM_water xMnerve xMkind xMpage k57 j1 j2 j4 j5 j6 y0 xM_orderBest xM_orderMany xM_turned xMtrial = some z → kG X 223 [(0, .ref aM), (1, .int j1), (2, .long j2), (4, .int j4), (5, .int j5), (6, .int j6)] [.int y0, .ref aM] [oO aM 4 [.int xM_thrown, .ref aMtext, .int xM_textSize, .int xM_place, .int xM_walkers, .int xM_light, .int xM_water, .ref aMnerve, .ref aMkind, .int xM_readWalkers, .int xM_readLight, .int xM_readWater, .ref aMreadNerve, .ref aMreadKind, .ref aMpage, .ref aMtrial, .ref aMbook, .int xM_acts, .ref aMkept, .ref aMisKept, .int xM_told, .ref aMtoldMinute, .ref aMtoldHeard, .long xM_seed, .int xM_orderBest, .int xM_orderMany, .ref aMworth, .int xM_turned], oI aMnerve iMnerve 5 xMnerve, oI aMkind iMkind 5 xMkind, oI aMpage iMpage 13 xMpage, oI aMtrial iMtrial 13 xMtrial] := by
    intro k57 hk57 j1 j2 j4 j5 j6 y0 xM_orderBest xM_orderMany xM_turned xMtrial hf
    unfold fX5_findOrder_b223 at hf
    refine g_put (C := RX5) (T := TX5) (N := 28) (ty := .int) (ws' := [oO aM 4 [.int xM_thrown, .ref aMtext, .int xM_textSize, .int xM_place, .int xM_walkers, .int xM_light, .int xM_water, .ref aMnerve, .ref aMkind, .int xM_readWalkers, .int xM_readLight, .int xM_readWater, .ref aMreadNerve, .ref aMreadKind, .ref aMpage, .ref aMtrial, .ref aMbook, .int xM_acts, .ref aMkept, .ref aMisKept, .int xM_told, .ref aMtoldMinute, .ref aMtoldHeard, .long xM_seed, .int xM_orderBest, .int y0, .ref aMworth, .int xM_turned], oI aMnerve iMnerve 5 xMnerve, oI aMkind iMkind 5 xMkind, oI aMpage iMpage 13 xMpage, oI aMtrial iMtrial 13 xMtrial]) hC tyX5_ok nmX5 hinX5 0 25 rfl rfl (by decide) (List.mem_of_getElem? (i := 3) rfl) rfl rfl rfl rfl (Nat.le_of_ble_eq_true rfl) dX5_findOrder_223 rfl ?_
    exact t226 k57 hk57 j1 j2 j4 j5 j6 xM_orderBest y0 xM_turned xMtrial hf
  have t193 : ∀ (k57 : Int32 → Int64 → Int32 → Int32 → Int32 → Int32 → Int32 → Int32 → (Nat → Int32) → Option (Int32 × Int32 × Int32 × (Nat → Int32))) (hk57 : ∀ (j1 : Int32) (j2 : Int64) (j4 : Int32) (j5 : Int32) (j6 : Int32) (xM_orderBest : Int32) (xM_orderMany : Int32) (xM_turned : Int32) (xMtrial : Nat → Int32), k57 j1 j2 j4 j5 j6 xM_orderBest xM_orderMany xM_turned xMtrial = some z → kG X 57 [(0, .ref aM), (1, .int j1), (2, .long j2), (4, .int j4), (5, .int j5), (6, .int j6)] [] [oO aM 4 [.int xM_thrown, .ref aMtext, .int xM_textSize, .int xM_place, .int xM_walkers, .int xM_light, .int xM_water, .ref aMnerve, .ref aMkind, .int xM_readWalkers, .int xM_readLight, .int xM_readWater, .ref aMreadNerve, .ref aMreadKind, .ref aMpage, .ref aMtrial, .ref aMbook, .int xM_acts, .ref aMkept, .ref aMisKept, .int xM_told, .ref aMtoldMinute, .ref aMtoldHeard, .long xM_seed, .int xM_orderBest, .int xM_orderMany, .ref aMworth, .int xM_turned], oI aMnerve iMnerve 5 xMnerve, oI aMkind iMkind 5 xMkind, oI aMpage iMpage 13 xMpage, oI aMtrial iMtrial 13 xMtrial]) (j1 : Int32) (j2 : Int64) (j4 : Int32) (j5 : Int32) (j6 : Int32) (y0 : Int32) (xM_orderBest : Int32) (xM_orderMany : Int32) (xM_turned : Int32) (xMtrial : Nat → Int32), fX5_findOrder_b193 xM_light xM_water xMnerve xMkind xMpage k57 j1 j2 j4 j5 j6 y0 xM_orderBest xM_orderMany xM_turned xMtrial = some z → kG X 193 [(0, .ref aM), (1, .int j1), (2, .long j2), (4, .int j4), (5, .int j5), (6, .int j6)] [.int y0, .ref aM] [oO aM 4 [.int xM_thrown, .ref aMtext, .int xM_textSize, .int xM_place, .int xM_walkers, .int xM_light, .int xM_water, .ref aMnerve, .ref aMkind, .int xM_readWalkers, .int xM_readLight, .int xM_readWater, .ref aMreadNerve, .ref aMreadKind, .ref aMpage, .ref aMtrial, .ref aMbook, .int xM_acts, .ref aMkept, .ref aMisKept, .int xM_told, .ref aMtoldMinute, .ref aMtoldHeard, .long xM_seed, .int xM_orderBest, .int xM_orderMany, .ref aMworth, .int xM_turned], oI aMnerve iMnerve 5 xMnerve, oI aMkind iMkind 5 xMkind, oI aMpage iMpage 13 xMpage, oI aMtrial iMtrial 13 xMtrial] := by
    intro k57 hk57 j1 j2 j4 j5 j6 y0 xM_orderBest xM_orderMany xM_turned xMtrial hf
    unfold fX5_findOrder_b193 at hf
    refine g_put (C := RX5) (T := TX5) (N := 28) (ty := .int) (ws' := [oO aM 4 [.int xM_thrown, .ref aMtext, .int xM_textSize, .int xM_place, .int xM_walkers, .int xM_light, .int xM_water, .ref aMnerve, .ref aMkind, .int xM_readWalkers, .int xM_readLight, .int xM_readWater, .ref aMreadNerve, .ref aMreadKind, .ref aMpage, .ref aMtrial, .ref aMbook, .int xM_acts, .ref aMkept, .ref aMisKept, .int xM_told, .ref aMtoldMinute, .ref aMtoldHeard, .long xM_seed, .int y0, .int xM_orderMany, .ref aMworth, .int xM_turned], oI aMnerve iMnerve 5 xMnerve, oI aMkind iMkind 5 xMkind, oI aMpage iMpage 13 xMpage, oI aMtrial iMtrial 13 xMtrial]) hC tyX5_ok nmX5 hinX5 0 24 rfl rfl (by decide) (List.mem_of_getElem? (i := 2) rfl) rfl rfl rfl rfl (Nat.le_of_ble_eq_true rfl) dX5_findOrder_193 rfl ?_
    refine g_aload_n hC 0 dX5_findOrder_196 rfl rfl ?_
    refine g_aload_n hC 0 dX5_findOrder_197 rfl rfl ?_
    refine g_get (C := RX5) (T := TX5) (N := 28) (v := .ref aMtrial) hC hinX5 0 15 rfl rfl (by decide) (List.mem_of_getElem? (i := 4) rfl) rfl dX5_findOrder_198 ?_
    refine g_iconst (v := (5 : Int32)) hC dX5_findOrder_201 ci_5 ?_
    obtain ⟨hg, hf⟩ := gd_ga hf
    refine g_iald hC 4 3 hg rfl rfl dX5_findOrder_202 ?_
    refine g_aload_n hC 0 dX5_findOrder_203 rfl rfl ?_
    refine g_get (C := RX5) (T := TX5) (N := 28) (v := .int xM_orderMany) hC hinX5 0 25 rfl rfl (by decide) (List.mem_of_getElem? (i := 3) rfl) rfl dX5_findOrder_204 ?_
    refine g_icmp_le (tgt := 219) hC dX5_findOrder_207 (by decide) (fun hc => ?_) (fun hc => ?_)
    · replace hf := gd_t hc hf
      refine g_aload_n hC 0 dX5_findOrder_219 rfl rfl ?_
      refine g_get (C := RX5) (T := TX5) (N := 28) (v := .int xM_orderMany) hC hinX5 0 25 rfl rfl (by decide) (List.mem_of_getElem? (i := 3) rfl) rfl dX5_findOrder_220 ?_
      exact t223 k57 hk57 j1 j2 j4 j5 j6 xM_orderMany y0 xM_orderMany xM_turned xMtrial hf
    · replace hf := gd_f hc hf
      refine g_aload_n hC 0 dX5_findOrder_210 rfl rfl ?_
      refine g_get (C := RX5) (T := TX5) (N := 28) (v := .ref aMtrial) hC hinX5 0 15 rfl rfl (by decide) (List.mem_of_getElem? (i := 4) rfl) rfl dX5_findOrder_211 ?_
      refine g_iconst (v := (5 : Int32)) hC dX5_findOrder_214 ci_5 ?_
      obtain ⟨hg, hf⟩ := gd_ga hf
      refine g_iald hC 4 3 hg rfl rfl dX5_findOrder_215 ?_
      refine g_goto (tgt := 223) hC dX5_findOrder_216 (by decide) ?_
      exact t223 k57 hk57 j1 j2 j4 j5 j6 (xMtrial (5 : Int32).toNatClampNeg) y0 xM_orderMany xM_turned xMtrial hf
  have t129 : ∀ (k57 : Int32 → Int64 → Int32 → Int32 → Int32 → Int32 → Int32 → Int32 → (Nat → Int32) → Option (Int32 × Int32 × Int32 × (Nat → Int32))) (hk57 : ∀ (j1 : Int32) (j2 : Int64) (j4 : Int32) (j5 : Int32) (j6 : Int32) (xM_orderBest : Int32) (xM_orderMany : Int32) (xM_turned : Int32) (xMtrial : Nat → Int32), k57 j1 j2 j4 j5 j6 xM_orderBest xM_orderMany xM_turned xMtrial = some z → kG X 57 [(0, .ref aM), (1, .int j1), (2, .long j2), (4, .int j4), (5, .int j5), (6, .int j6)] [] [oO aM 4 [.int xM_thrown, .ref aMtext, .int xM_textSize, .int xM_place, .int xM_walkers, .int xM_light, .int xM_water, .ref aMnerve, .ref aMkind, .int xM_readWalkers, .int xM_readLight, .int xM_readWater, .ref aMreadNerve, .ref aMreadKind, .ref aMpage, .ref aMtrial, .ref aMbook, .int xM_acts, .ref aMkept, .ref aMisKept, .int xM_told, .ref aMtoldMinute, .ref aMtoldHeard, .long xM_seed, .int xM_orderBest, .int xM_orderMany, .ref aMworth, .int xM_turned], oI aMnerve iMnerve 5 xMnerve, oI aMkind iMkind 5 xMkind, oI aMpage iMpage 13 xMpage, oI aMtrial iMtrial 13 xMtrial]) (k86 : Int32 → Int64 → Int32 → Int32 → Int32 → Int32 → Int32 → Int32 → Int32 → Int32 → Int32 → (Nat → Int32) → Option (Int32 × Int32 × Int32 × (Nat → Int32))) (hk86 : ∀ (j1 : Int32) (j2 : Int64) (j4 : Int32) (j5 : Int32) (j6 : Int32) (j7 : Int32) (j8 : Int32) (j9 : Int32) (xM_orderBest : Int32) (xM_orderMany : Int32) (xM_turned : Int32) (xMtrial : Nat → Int32), k86 j1 j2 j4 j5 j6 j7 j8 j9 xM_orderBest xM_orderMany xM_turned xMtrial = some z → kG X 86 [(0, .ref aM), (1, .int j1), (2, .long j2), (4, .int j4), (5, .int j5), (6, .int j6), (7, .int j7), (8, .int j8), (9, .int j9)] [] [oO aM 4 [.int xM_thrown, .ref aMtext, .int xM_textSize, .int xM_place, .int xM_walkers, .int xM_light, .int xM_water, .ref aMnerve, .ref aMkind, .int xM_readWalkers, .int xM_readLight, .int xM_readWater, .ref aMreadNerve, .ref aMreadKind, .ref aMpage, .ref aMtrial, .ref aMbook, .int xM_acts, .ref aMkept, .ref aMisKept, .int xM_told, .ref aMtoldMinute, .ref aMtoldHeard, .long xM_seed, .int xM_orderBest, .int xM_orderMany, .ref aMworth, .int xM_turned], oI aMnerve iMnerve 5 xMnerve, oI aMkind iMkind 5 xMkind, oI aMpage iMpage 13 xMpage, oI aMtrial iMtrial 13 xMtrial]) (j1 : Int32) (j2 : Int64) (j4 : Int32) (j5 : Int32) (j6 : Int32) (j8 : Int32) (j9 : Int32) (j10 : Int32) (y0 : Int32) (y1 : Int32) (xM_orderBest : Int32) (xM_orderMany : Int32) (xM_turned : Int32) (xMtrial : Nat → Int32), fX5_findOrder_b129 xM_light xM_water xMnerve xMkind xMpage k57 k86 j1 j2 j4 j5 j6 j8 j9 j10 y0 y1 xM_orderBest xM_orderMany xM_turned xMtrial = some z → kG X 129 [(0, .ref aM), (1, .int j1), (2, .long j2), (4, .int j4), (5, .int j5), (6, .int j6), (8, .int j8), (9, .int j9), (10, .int j10)] [.int y0, .int y1] [oO aM 4 [.int xM_thrown, .ref aMtext, .int xM_textSize, .int xM_place, .int xM_walkers, .int xM_light, .int xM_water, .ref aMnerve, .ref aMkind, .int xM_readWalkers, .int xM_readLight, .int xM_readWater, .ref aMreadNerve, .ref aMreadKind, .ref aMpage, .ref aMtrial, .ref aMbook, .int xM_acts, .ref aMkept, .ref aMisKept, .int xM_told, .ref aMtoldMinute, .ref aMtoldHeard, .long xM_seed, .int xM_orderBest, .int xM_orderMany, .ref aMworth, .int xM_turned], oI aMnerve iMnerve 5 xMnerve, oI aMkind iMkind 5 xMkind, oI aMpage iMpage 13 xMpage, oI aMtrial iMtrial 13 xMtrial] := by
    intro k57 hk57 k86 hk86 j1 j2 j4 j5 j6 j8 j9 j10 y0 y1 xM_orderBest xM_orderMany xM_turned xMtrial hf
    unfold fX5_findOrder_b129 at hf
    refine g_ior hC dX5_findOrder_129 ?_
    refine g_istore (lv' := [(7, .int (y1 ||| y0)), (0, .ref aM), (1, .int j1), (2, .long j2), (4, .int j4), (5, .int j5), (6, .int j6), (8, .int j8), (9, .int j9), (10, .int j10)]) hC dX5_findOrder_130 (by decide) rfl ?_
    refine g_aload_n hC 1 dX5_findOrder_132 rfl rfl ?_
    refine g_get (C := RX5) (T := TX5) (N := 28) (v := .ref aMtrial) hC hinX5 0 15 rfl rfl (by decide) (List.mem_of_getElem? (i := 4) rfl) rfl dX5_findOrder_133 ?_
    refine g_iload hC 8 dX5_findOrder_136 rfl ?_
    refine g_iload hC 9 dX5_findOrder_138 rfl ?_
    obtain ⟨hg, hf⟩ := gd_ga hf
    refine g_iast (ws' := [oO aM 4 [.int xM_thrown, .ref aMtext, .int xM_textSize, .int xM_place, .int xM_walkers, .int xM_light, .int xM_water, .ref aMnerve, .ref aMkind, .int xM_readWalkers, .int xM_readLight, .int xM_readWater, .ref aMreadNerve, .ref aMreadKind, .ref aMpage, .ref aMtrial, .ref aMbook, .int xM_acts, .ref aMkept, .ref aMisKept, .int xM_told, .ref aMtoldMinute, .ref aMtoldHeard, .long xM_seed, .int xM_orderBest, .int xM_orderMany, .ref aMworth, .int xM_turned], oI aMnerve iMnerve 5 xMnerve, oI aMkind iMkind 5 xMkind, oI aMpage iMpage 13 xMpage, oI aMtrial iMtrial 13 (upd xMtrial j9.toNatClampNeg j10)]) hC 4 3 hg rfl rfl dX5_findOrder_140 rfl ?_
    refine g_iinc (v := (j9 + (-1 : Int32))) (lv' := [(9, .int (j9 + (-1 : Int32))), (7, .int (y1 ||| y0)), (0, .ref aM), (1, .int j1), (2, .long j2), (4, .int j4), (5, .int j5), (6, .int j6), (8, .int j8), (10, .int j10)]) hC 8 dX5_findOrder_141 rfl (ii _ ci_m1) (by decide) rfl ?_
    refine g_goto (tgt := 86) hC dX5_findOrder_144 (by decide) ?_
    refine g_lv (lv' := [(0, .ref aM), (1, .int j1), (2, .long j2), (4, .int j4), (5, .int j5), (6, .int j6), (7, .int (y1 ||| y0)), (8, .int j8), (9, .int (j9 + (-1 : Int32)))]) [2, 3, 4, 5, 6, 7, 1, 8, 0] rfl ?_
    exact hk86 j1 j2 j4 j5 j6 (y1 ||| y0) j8 (j9 + (-1 : Int32)) xM_orderBest xM_orderMany xM_turned (upd xMtrial j9.toNatClampNeg j10) hf
  have t127 : ∀ (k57 : Int32 → Int64 → Int32 → Int32 → Int32 → Int32 → Int32 → Int32 → (Nat → Int32) → Option (Int32 × Int32 × Int32 × (Nat → Int32))) (hk57 : ∀ (j1 : Int32) (j2 : Int64) (j4 : Int32) (j5 : Int32) (j6 : Int32) (xM_orderBest : Int32) (xM_orderMany : Int32) (xM_turned : Int32) (xMtrial : Nat → Int32), k57 j1 j2 j4 j5 j6 xM_orderBest xM_orderMany xM_turned xMtrial = some z → kG X 57 [(0, .ref aM), (1, .int j1), (2, .long j2), (4, .int j4), (5, .int j5), (6, .int j6)] [] [oO aM 4 [.int xM_thrown, .ref aMtext, .int xM_textSize, .int xM_place, .int xM_walkers, .int xM_light, .int xM_water, .ref aMnerve, .ref aMkind, .int xM_readWalkers, .int xM_readLight, .int xM_readWater, .ref aMreadNerve, .ref aMreadKind, .ref aMpage, .ref aMtrial, .ref aMbook, .int xM_acts, .ref aMkept, .ref aMisKept, .int xM_told, .ref aMtoldMinute, .ref aMtoldHeard, .long xM_seed, .int xM_orderBest, .int xM_orderMany, .ref aMworth, .int xM_turned], oI aMnerve iMnerve 5 xMnerve, oI aMkind iMkind 5 xMkind, oI aMpage iMpage 13 xMpage, oI aMtrial iMtrial 13 xMtrial]) (k86 : Int32 → Int64 → Int32 → Int32 → Int32 → Int32 → Int32 → Int32 → Int32 → Int32 → Int32 → (Nat → Int32) → Option (Int32 × Int32 × Int32 × (Nat → Int32))) (hk86 : ∀ (j1 : Int32) (j2 : Int64) (j4 : Int32) (j5 : Int32) (j6 : Int32) (j7 : Int32) (j8 : Int32) (j9 : Int32) (xM_orderBest : Int32) (xM_orderMany : Int32) (xM_turned : Int32) (xMtrial : Nat → Int32), k86 j1 j2 j4 j5 j6 j7 j8 j9 xM_orderBest xM_orderMany xM_turned xMtrial = some z → kG X 86 [(0, .ref aM), (1, .int j1), (2, .long j2), (4, .int j4), (5, .int j5), (6, .int j6), (7, .int j7), (8, .int j8), (9, .int j9)] [] [oO aM 4 [.int xM_thrown, .ref aMtext, .int xM_textSize, .int xM_place, .int xM_walkers, .int xM_light, .int xM_water, .ref aMnerve, .ref aMkind, .int xM_readWalkers, .int xM_readLight, .int xM_readWater, .ref aMreadNerve, .ref aMreadKind, .ref aMpage, .ref aMtrial, .ref aMbook, .int xM_acts, .ref aMkept, .ref aMisKept, .int xM_told, .ref aMtoldMinute, .ref aMtoldHeard, .long xM_seed, .int xM_orderBest, .int xM_orderMany, .ref aMworth, .int xM_turned], oI aMnerve iMnerve 5 xMnerve, oI aMkind iMkind 5 xMkind, oI aMpage iMpage 13 xMpage, oI aMtrial iMtrial 13 xMtrial]) (j1 : Int32) (j2 : Int64) (j4 : Int32) (j5 : Int32) (j6 : Int32) (j8 : Int32) (j9 : Int32) (j10 : Int32) (y0 : Int32) (xM_orderBest : Int32) (xM_orderMany : Int32) (xM_turned : Int32) (xMtrial : Nat → Int32), fX5_findOrder_b127 xM_light xM_water xMnerve xMkind xMpage k57 k86 j1 j2 j4 j5 j6 j8 j9 j10 y0 xM_orderBest xM_orderMany xM_turned xMtrial = some z → kG X 127 [(0, .ref aM), (1, .int j1), (2, .long j2), (4, .int j4), (5, .int j5), (6, .int j6), (8, .int j8), (9, .int j9), (10, .int j10)] [.int y0] [oO aM 4 [.int xM_thrown, .ref aMtext, .int xM_textSize, .int xM_place, .int xM_walkers, .int xM_light, .int xM_water, .ref aMnerve, .ref aMkind, .int xM_readWalkers, .int xM_readLight, .int xM_readWater, .ref aMreadNerve, .ref aMreadKind, .ref aMpage, .ref aMtrial, .ref aMbook, .int xM_acts, .ref aMkept, .ref aMisKept, .int xM_told, .ref aMtoldMinute, .ref aMtoldHeard, .long xM_seed, .int xM_orderBest, .int xM_orderMany, .ref aMworth, .int xM_turned], oI aMnerve iMnerve 5 xMnerve, oI aMkind iMkind 5 xMkind, oI aMpage iMpage 13 xMpage, oI aMtrial iMtrial 13 xMtrial] := by
    intro k57 hk57 k86 hk86 j1 j2 j4 j5 j6 j8 j9 j10 y0 xM_orderBest xM_orderMany xM_turned xMtrial hf
    unfold fX5_findOrder_b127 at hf
    refine g_bipush (v := (32 : Int32)) hC dX5_findOrder_127 cb_32 ?_
    exact t129 k57 hk57 k86 hk86 j1 j2 j4 j5 j6 j8 j9 j10 (32 : Int32) y0 xM_orderBest xM_orderMany xM_turned xMtrial hf
  have t86 : ∀ (k57 : Int32 → Int64 → Int32 → Int32 → Int32 → Int32 → Int32 → Int32 → (Nat → Int32) → Option (Int32 × Int32 × Int32 × (Nat → Int32))) (hk57 : ∀ (j1 : Int32) (j2 : Int64) (j4 : Int32) (j5 : Int32) (j6 : Int32) (xM_orderBest : Int32) (xM_orderMany : Int32) (xM_turned : Int32) (xMtrial : Nat → Int32), k57 j1 j2 j4 j5 j6 xM_orderBest xM_orderMany xM_turned xMtrial = some z → kG X 57 [(0, .ref aM), (1, .int j1), (2, .long j2), (4, .int j4), (5, .int j5), (6, .int j6)] [] [oO aM 4 [.int xM_thrown, .ref aMtext, .int xM_textSize, .int xM_place, .int xM_walkers, .int xM_light, .int xM_water, .ref aMnerve, .ref aMkind, .int xM_readWalkers, .int xM_readLight, .int xM_readWater, .ref aMreadNerve, .ref aMreadKind, .ref aMpage, .ref aMtrial, .ref aMbook, .int xM_acts, .ref aMkept, .ref aMisKept, .int xM_told, .ref aMtoldMinute, .ref aMtoldHeard, .long xM_seed, .int xM_orderBest, .int xM_orderMany, .ref aMworth, .int xM_turned], oI aMnerve iMnerve 5 xMnerve, oI aMkind iMkind 5 xMkind, oI aMpage iMpage 13 xMpage, oI aMtrial iMtrial 13 xMtrial]) (n : Nat) (j1 : Int32) (j2 : Int64) (j4 : Int32) (j5 : Int32) (j6 : Int32) (j7 : Int32) (j8 : Int32) (j9 : Int32) (xM_orderBest : Int32) (xM_orderMany : Int32) (xM_turned : Int32) (xMtrial : Nat → Int32), lp (fun _ _ _ _ _ _ _ _ _ _ _ _ => none) (fX5_findOrder_b86_S xM_light xM_water xMnerve xMkind xMpage k57) n j1 j2 j4 j5 j6 j7 j8 j9 xM_orderBest xM_orderMany xM_turned xMtrial = some z → kG X 86 [(0, .ref aM), (1, .int j1), (2, .long j2), (4, .int j4), (5, .int j5), (6, .int j6), (7, .int j7), (8, .int j8), (9, .int j9)] [] [oO aM 4 [.int xM_thrown, .ref aMtext, .int xM_textSize, .int xM_place, .int xM_walkers, .int xM_light, .int xM_water, .ref aMnerve, .ref aMkind, .int xM_readWalkers, .int xM_readLight, .int xM_readWater, .ref aMreadNerve, .ref aMreadKind, .ref aMpage, .ref aMtrial, .ref aMbook, .int xM_acts, .ref aMkept, .ref aMisKept, .int xM_told, .ref aMtoldMinute, .ref aMtoldHeard, .long xM_seed, .int xM_orderBest, .int xM_orderMany, .ref aMworth, .int xM_turned], oI aMnerve iMnerve 5 xMnerve, oI aMkind iMkind 5 xMkind, oI aMpage iMpage 13 xMpage, oI aMtrial iMtrial 13 xMtrial] := by
    intro k57 hk57 n
    induction n with
    | zero => intro j1 j2 j4 j5 j6 j7 j8 j9 xM_orderBest xM_orderMany xM_turned xMtrial hf; cases hf
    | succ n hk86 =>
      intro j1 j2 j4 j5 j6 j7 j8 j9 xM_orderBest xM_orderMany xM_turned xMtrial hf
      rw [lp_s] at hf
      revert hf hk86
      generalize lp (fun _ _ _ _ _ _ _ _ _ _ _ _ => none) (fX5_findOrder_b86_S xM_light xM_water xMnerve xMkind xMpage k57) n = k86
      intro hk86 hf
      unfold fX5_findOrder_b86_S at hf
      refine g_iload hC 8 dX5_findOrder_86 rfl ?_
      refine g_if_lt (tgt := 147) hC dX5_findOrder_88 (by decide) (fun hc => ?_) (fun hc => ?_)
      · replace hf := gd_t hc hf
        refine g_iload hC 6 dX5_findOrder_147 rfl ?_
        refine g_aload_n hC 0 dX5_findOrder_149 rfl rfl ?_
        refine g_get (C := RX5) (T := TX5) (N := 28) (v := .ref aMpage) hC hinX5 0 14 rfl rfl (by decide) (List.mem_of_getElem? (i := 1) rfl) rfl dX5_findOrder_150 ?_
        obtain ⟨z153, hz153, hf⟩ := gd_b hf
        refine g_callSi (wr := [oO aM 4 [.int xM_thrown, .ref aMtext, .int xM_textSize, .int xM_place, .int xM_walkers, .int xM_light, .int xM_water, .ref aMnerve, .ref aMkind, .int xM_readWalkers, .int xM_readLight, .int xM_readWater, .ref aMreadNerve, .ref aMreadKind, .ref aMpage, .ref aMtrial, .ref aMbook, .int xM_acts, .ref aMkept, .ref aMisKept, .int xM_told, .ref aMtoldMinute, .ref aMtoldHeard, .long xM_seed, .int xM_orderBest, .int xM_orderMany, .ref aMworth, .int xM_turned], oI aMnerve iMnerve 5 xMnerve, oI aMkind iMkind 5 xMkind, oI aMtrial iMtrial 13 xMtrial]) (wn := [oO aM 4 [.int xM_thrown, .ref aMtext, .int xM_textSize, .int xM_place, .int xM_walkers, .int xM_light, .int xM_water, .ref aMnerve, .ref aMkind, .int xM_readWalkers, .int xM_readLight, .int xM_readWater, .ref aMreadNerve, .ref aMreadKind, .ref aMpage, .ref aMtrial, .ref aMbook, .int xM_acts, .ref aMkept, .ref aMisKept, .int xM_told, .ref aMtoldMinute, .ref aMtoldHeard, .long xM_seed, .int xM_orderBest, .int xM_orderMany, .ref aMworth, .int xM_turned], oI aMnerve iMnerve 5 xMnerve, oI aMkind iMkind 5 xMkind, oI aMpage iMpage 13 xMpage, oI aMtrial iMtrial 13 xMtrial]) hC [.ref aMpage] (cX5_rowOf_m (kl X) (kD X) aMpage iMpage xMpage z153 hz153) gX5_findOrder_X5_rowOf rfl kyX5_rowOf rfl [3] [0, 1, 2, 4] [2] [0, 1, 2, 4, 3] rfl rfl rfl rfl (by decide) rfl rfl rfl ⟨rfl, rfl⟩ ⟨Nat.le_of_ble_eq_true rfl, Nat.le_of_ble_eq_true rfl⟩ (Nat.le_of_ble_eq_true rfl) rfl dX5_findOrder_153 ?_
        refine g_icmp_ne (tgt := 226) hC dX5_findOrder_156 (by decide) (fun hc => ?_) (fun hc => ?_)
        · replace hf := gd_f hc hf
          refine g_lv (lv' := [(0, .ref aM), (1, .int j1), (2, .long j2), (4, .int j4), (5, .int j5), (6, .int j6)]) [0, 1, 2, 3, 4, 5] rfl ?_
          exact t226 k57 hk57 j1 j2 j4 j5 j6 xM_orderBest xM_orderMany xM_turned xMtrial hf
        · replace hf := gd_t hc hf
          refine g_aload_n hC 0 dX5_findOrder_159 rfl rfl ?_
          obtain ⟨z160, hz160, hf⟩ := gd_b hf
          refine g_callVv (wr := [oI aMnerve iMnerve 5 xMnerve, oI aMkind iMkind 5 xMkind, oI aMpage iMpage 13 xMpage]) (wn := [oO aM 4 [.int xM_thrown, .ref aMtext, .int xM_textSize, .int xM_place, .int xM_walkers, .int xM_light, .int xM_water, .ref aMnerve, .ref aMkind, .int xM_readWalkers, .int xM_readLight, .int xM_readWater, .ref aMreadNerve, .ref aMreadKind, .ref aMpage, .ref aMtrial, .ref aMbook, .int xM_acts, .ref aMkept, .ref aMisKept, .int xM_told, .ref aMtoldMinute, .ref aMtoldHeard, .long xM_seed, .int xM_orderBest, .int xM_orderMany, .ref aMworth, .int xM_turned], oI aMnerve iMnerve 5 xMnerve, oI aMkind iMkind 5 xMkind, oI aMpage iMpage 13 xMpage, oI aMtrial iMtrial 13 z160]) hC [] (cX5_hush_m (kl X) (kD X) aM aMtext aMnerve aMkind aMreadNerve aMreadKind aMpage aMtrial aMbook aMkept aMisKept aMtoldMinute aMtoldHeard aMworth iMtrial xM_thrown xM_textSize xM_place xM_walkers xM_light xM_water xM_readWalkers xM_readLight xM_readWater xM_acts xM_told xM_seed xM_orderBest xM_orderMany xM_turned xMtrial z160 hz160) gX5_findOrder_X5_hush rfl kyX5_hush rfl rfl rfl (q0 := 0) rfl [0, 4] [1, 2, 3] [3] [3, 0, 1, 2, 4] rfl rfl rfl rfl (by decide) rfl rfl rfl ⟨rfl, rfl⟩ ⟨Nat.le_of_ble_eq_true rfl, Nat.le_of_ble_eq_true rfl⟩ (Nat.le_of_ble_eq_true rfl) rfl dX5_findOrder_160 ?_
          refine g_aload_n hC 0 dX5_findOrder_163 rfl rfl ?_
          refine g_iload_n hC 1 dX5_findOrder_164 rfl rfl ?_
          refine g_lload_n hC 2 dX5_findOrder_165 rfl rfl ?_
          obtain ⟨z166, hz166, hf⟩ := gd_b hf
          refine g_callVi (wr := [oI aMpage iMpage 13 xMpage]) (wn := [oO aM 4 [.int xM_thrown, .ref aMtext, .int xM_textSize, .int xM_place, .int xM_walkers, .int xM_light, .int xM_water, .ref aMnerve, .ref aMkind, .int xM_readWalkers, .int xM_readLight, .int xM_readWater, .ref aMreadNerve, .ref aMreadKind, .ref aMpage, .ref aMtrial, .ref aMbook, .int xM_acts, .ref aMkept, .ref aMisKept, .int xM_told, .ref aMtoldMinute, .ref aMtoldHeard, .long xM_seed, .int xM_orderBest, .int xM_orderMany, .ref aMworth, .int z166.2.1], oI aMnerve iMnerve 5 xMnerve, oI aMkind iMkind 5 xMkind, oI aMpage iMpage 13 xMpage, oI aMtrial iMtrial 13 z166.2.2]) hC [.int j1, .long j2] (cX5_sing_m (kl X) (kD X) aM aMtext aMnerve aMkind aMreadNerve aMreadKind aMpage aMtrial aMbook aMkept aMisKept aMtoldMinute aMtoldHeard aMworth iMnerve iMkind iMtrial xM_thrown xM_textSize xM_place xM_walkers xM_light xM_water xM_readWalkers xM_readLight xM_readWater xM_acts xM_told xM_seed xM_orderBest xM_orderMany xM_turned xMnerve xMkind z160 j1 j2 z166 hz166) gX5_findOrder_X5_sing rfl kyX5_sing rfl rfl rfl (q0 := 0) rfl [0, 1, 2, 4] [3] [0, 1, 3] [1, 2, 3, 0, 4] rfl rfl rfl rfl (by decide) rfl rfl rfl ⟨rfl, rfl⟩ ⟨Nat.le_of_ble_eq_true rfl, Nat.le_of_ble_eq_true rfl⟩ (Nat.le_of_ble_eq_true rfl) rfl dX5_findOrder_166 ?_
          refine g_pop hC dX5_findOrder_169 rfl ?_
          refine g_aload_n hC 0 dX5_findOrder_170 rfl rfl ?_
          refine g_aload_n hC 0 dX5_findOrder_171 rfl rfl ?_
          refine g_get (C := RX5) (T := TX5) (N := 28) (v := .ref aMtrial) hC hinX5 0 15 rfl rfl (by decide) (List.mem_of_getElem? (i := 4) rfl) rfl dX5_findOrder_172 ?_
          refine g_iconst (v := (5 : Int32)) hC dX5_findOrder_175 ci_5 ?_
          obtain ⟨hg, hf⟩ := gd_ga hf
          refine g_iald hC 4 3 hg rfl rfl dX5_findOrder_176 ?_
          refine g_aload_n hC 0 dX5_findOrder_177 rfl rfl ?_
          refine g_get (C := RX5) (T := TX5) (N := 28) (v := .int xM_orderMany) hC hinX5 0 25 rfl rfl (by decide) (List.mem_of_getElem? (i := 3) rfl) rfl dX5_findOrder_178 ?_
          refine g_icmp_le (tgt := 189) hC dX5_findOrder_181 (by decide) (fun hc => ?_) (fun hc => ?_)
          · replace hf := gd_t hc hf
            refine g_aload_n hC 0 dX5_findOrder_189 rfl rfl ?_
            refine g_get (C := RX5) (T := TX5) (N := 28) (v := .int xM_orderBest) hC hinX5 0 24 rfl rfl (by decide) (List.mem_of_getElem? (i := 2) rfl) rfl dX5_findOrder_190 ?_
            refine g_lv (lv' := [(0, .ref aM), (1, .int j1), (2, .long j2), (4, .int j4), (5, .int j5), (6, .int j6)]) [0, 1, 2, 3, 4, 5] rfl ?_
            exact t193 k57 hk57 j1 j2 j4 j5 j6 xM_orderBest xM_orderBest xM_orderMany z166.2.1 z166.2.2 hf
          · replace hf := gd_f hc hf
            refine g_iload hC 5 dX5_findOrder_184 rfl ?_
            refine g_goto (tgt := 193) hC dX5_findOrder_186 (by decide) ?_
            refine g_lv (lv' := [(0, .ref aM), (1, .int j1), (2, .long j2), (4, .int j4), (5, .int j5), (6, .int j6)]) [0, 1, 2, 3, 4, 5] rfl ?_
            exact t193 k57 hk57 j1 j2 j4 j5 j6 j6 xM_orderBest xM_orderMany z166.2.1 z166.2.2 hf
      · replace hf := gd_f hc hf
        refine g_iload hC 7 dX5_findOrder_91 rfl ?_
        refine g_bipush (v := (10 : Int32)) hC dX5_findOrder_93 cb_10 ?_
        refine g_irem hC dX5_findOrder_95 (by decide) ?_
        refine g_iconst (v := (1 : Int32)) hC dX5_findOrder_96 ci_1 ?_
        refine g_isub hC dX5_findOrder_97 ?_
        refine g_istore (lv' := [(10, .int ((j8 - j8 / (10 : Int32) * (10 : Int32)) - (1 : Int32))), (0, .ref aM), (1, .int j1), (2, .long j2), (4, .int j4), (5, .int j5), (6, .int j6), (7, .int j7), (8, .int j8), (9, .int j9)]) hC dX5_findOrder_98 (by decide) rfl ?_
        refine g_iload hC 8 dX5_findOrder_100 rfl ?_
        refine g_bipush (v := (10 : Int32)) hC dX5_findOrder_102 cb_10 ?_
        refine g_idiv hC dX5_findOrder_104 (by decide) ?_
        refine g_istore (lv' := [(8, .int (j8 / (10 : Int32))), (10, .int ((j8 - j8 / (10 : Int32) * (10 : Int32)) - (1 : Int32))), (0, .ref aM), (1, .int j1), (2, .long j2), (4, .int j4), (5, .int j5), (6, .int j6), (7, .int j7), (9, .int j9)]) hC dX5_findOrder_105 (by decide) rfl ?_
        refine g_iload hC 8 dX5_findOrder_107 rfl ?_
        refine g_iload hC 1 dX5_findOrder_109 rfl ?_
        refine g_if_lt (tgt := 127) hC dX5_findOrder_111 (by decide) (fun hc => ?_) (fun hc => ?_)
        · replace hf := gd_t hc hf
          refine g_lv (lv' := [(0, .ref aM), (1, .int j1), (2, .long j2), (4, .int j4), (5, .int j5), (6, .int j6), (8, .int (j8 / (10 : Int32))), (9, .int j9), (10, .int ((j8 - j8 / (10 : Int32) * (10 : Int32)) - (1 : Int32)))]) [2, 3, 4, 5, 6, 7, 0, 9, 1] rfl ?_
          exact t127 k57 hk57 k86 hk86 j1 j2 j4 j5 j6 (j8 / (10 : Int32)) j9 ((j8 - j8 / (10 : Int32) * (10 : Int32)) - (1 : Int32)) j7 xM_orderBest xM_orderMany xM_turned xMtrial hf
        · replace hf := gd_f hc hf
          refine g_iload hC 1 dX5_findOrder_114 rfl ?_
          refine g_iconst (v := (5 : Int32)) hC dX5_findOrder_116 ci_5 ?_
          refine g_icmp_ge (tgt := 127) hC dX5_findOrder_117 (by decide) (fun hc => ?_) (fun hc => ?_)
          · replace hf := gd_t hc hf
            refine g_lv (lv' := [(0, .ref aM), (1, .int j1), (2, .long j2), (4, .int j4), (5, .int j5), (6, .int j6), (8, .int (j8 / (10 : Int32))), (9, .int j9), (10, .int ((j8 - j8 / (10 : Int32) * (10 : Int32)) - (1 : Int32)))]) [2, 3, 4, 5, 6, 7, 0, 9, 1] rfl ?_
            exact t127 k57 hk57 k86 hk86 j1 j2 j4 j5 j6 (j8 / (10 : Int32)) j9 ((j8 - j8 / (10 : Int32) * (10 : Int32)) - (1 : Int32)) j7 xM_orderBest xM_orderMany xM_turned xMtrial hf
          · replace hf := gd_f hc hf
            refine g_iconst (v := (1 : Int32)) hC dX5_findOrder_120 ci_1 ?_
            refine g_iload hC 1 dX5_findOrder_121 rfl ?_
            refine g_ishl hC dX5_findOrder_123 ?_
            refine g_goto (tgt := 129) hC dX5_findOrder_124 (by decide) ?_
            refine g_lv (lv' := [(0, .ref aM), (1, .int j1), (2, .long j2), (4, .int j4), (5, .int j5), (6, .int j6), (8, .int (j8 / (10 : Int32))), (9, .int j9), (10, .int ((j8 - j8 / (10 : Int32) * (10 : Int32)) - (1 : Int32)))]) [2, 3, 4, 5, 6, 7, 0, 9, 1] rfl ?_
            exact t129 k57 hk57 k86 hk86 j1 j2 j4 j5 j6 (j8 / (10 : Int32)) j9 ((j8 - j8 / (10 : Int32) * (10 : Int32)) - (1 : Int32)) ((1 : Int32) <<< (((j8 - j8 / (10 : Int32) * (10 : Int32)) - (1 : Int32)) &&& 31)) j7 xM_orderBest xM_orderMany xM_turned xMtrial hf
  have t57 : ∀  (n : Nat) (j1 : Int32) (j2 : Int64) (j4 : Int32) (j5 : Int32) (j6 : Int32) (xM_orderBest : Int32) (xM_orderMany : Int32) (xM_turned : Int32) (xMtrial : Nat → Int32), lp (fun _ _ _ _ _ _ _ _ _ => none) (fX5_findOrder_b57_S xM_light xM_water xMnerve xMkind xMpage ) n j1 j2 j4 j5 j6 xM_orderBest xM_orderMany xM_turned xMtrial = some z → kG X 57 [(0, .ref aM), (1, .int j1), (2, .long j2), (4, .int j4), (5, .int j5), (6, .int j6)] [] [oO aM 4 [.int xM_thrown, .ref aMtext, .int xM_textSize, .int xM_place, .int xM_walkers, .int xM_light, .int xM_water, .ref aMnerve, .ref aMkind, .int xM_readWalkers, .int xM_readLight, .int xM_readWater, .ref aMreadNerve, .ref aMreadKind, .ref aMpage, .ref aMtrial, .ref aMbook, .int xM_acts, .ref aMkept, .ref aMisKept, .int xM_told, .ref aMtoldMinute, .ref aMtoldHeard, .long xM_seed, .int xM_orderBest, .int xM_orderMany, .ref aMworth, .int xM_turned], oI aMnerve iMnerve 5 xMnerve, oI aMkind iMkind 5 xMkind, oI aMpage iMpage 13 xMpage, oI aMtrial iMtrial 13 xMtrial] := by
    intro  n
    induction n with
    | zero => intro j1 j2 j4 j5 j6 xM_orderBest xM_orderMany xM_turned xMtrial hf; cases hf
    | succ n hk57 =>
      intro j1 j2 j4 j5 j6 xM_orderBest xM_orderMany xM_turned xMtrial hf
      rw [lp_s] at hf
      revert hf hk57
      generalize lp (fun _ _ _ _ _ _ _ _ _ => none) (fX5_findOrder_b57_S xM_light xM_water xMnerve xMkind xMpage ) n = k57
      intro hk57 hf
      unfold fX5_findOrder_b57_S at hf
      refine g_iload hC 5 dX5_findOrder_57 rfl ?_
      refine g_iload hC 4 dX5_findOrder_59 rfl ?_
      refine g_icmp_ge (tgt := 232) hC dX5_findOrder_61 (by decide) (fun hc => ?_) (fun hc => ?_)
      · replace hf := gd_t hc hf
        exact hQ (xM_orderBest, xM_orderMany, xM_turned, xMtrial) _ _ (gd_s hf) dX5_findOrder_232
      · replace hf := gd_f hc hf
        refine g_iload hC 3 dX5_findOrder_64 rfl ?_
        refine g_if_le (tgt := 232) hC dX5_findOrder_66 (by decide) (fun hc => ?_) (fun hc => ?_)
        · replace hf := gd_t hc hf
          exact hQ (xM_orderBest, xM_orderMany, xM_turned, xMtrial) _ _ (gd_s hf) dX5_findOrder_232
        · replace hf := gd_f hc hf
          refine g_iconst (v := (0 : Int32)) hC dX5_findOrder_69 ci_0 ?_
          refine g_istore (lv' := [(7, .int (0 : Int32)), (0, .ref aM), (1, .int j1), (2, .long j2), (4, .int j4), (5, .int j5), (6, .int j6)]) hC dX5_findOrder_70 (by decide) rfl ?_
          refine g_iload hC 6 dX5_findOrder_72 rfl ?_
          refine g_istore (lv' := [(8, .int j6), (7, .int (0 : Int32)), (0, .ref aM), (1, .int j1), (2, .long j2), (4, .int j4), (5, .int j5), (6, .int j6)]) hC dX5_findOrder_74 (by decide) rfl ?_
          refine g_aload_n hC 2 dX5_findOrder_76 rfl rfl ?_
          obtain ⟨z77, hz77, hf⟩ := gd_b hf
          refine g_callVv (wr := [oI aMnerve iMnerve 5 xMnerve, oI aMkind iMkind 5 xMkind]) (wn := [oO aM 4 [.int xM_thrown, .ref aMtext, .int xM_textSize, .int xM_place, .int xM_walkers, .int xM_light, .int xM_water, .ref aMnerve, .ref aMkind, .int xM_readWalkers, .int xM_readLight, .int xM_readWater, .ref aMreadNerve, .ref aMreadKind, .ref aMpage, .ref aMtrial, .ref aMbook, .int xM_acts, .ref aMkept, .ref aMisKept, .int xM_told, .ref aMtoldMinute, .ref aMtoldHeard, .long xM_seed, .int xM_orderBest, .int xM_orderMany, .ref aMworth, .int xM_turned], oI aMnerve iMnerve 5 xMnerve, oI aMkind iMkind 5 xMkind, oI aMpage iMpage 13 xMpage, oI aMtrial iMtrial 13 z77]) hC [] (cX5_begin_m (kl X) (kD X) aM aMtext aMnerve aMkind aMreadNerve aMreadKind aMpage aMtrial aMbook aMkept aMisKept aMtoldMinute aMtoldHeard aMworth iMpage iMtrial xM_thrown xM_textSize xM_place xM_walkers xM_light xM_water xM_readWalkers xM_readLight xM_readWater xM_acts xM_told xM_seed xM_orderBest xM_orderMany xM_turned xMpage xMtrial z77 hz77) gX5_findOrder_X5_begin rfl kyX5_begin rfl rfl rfl (q0 := 0) rfl [0, 3, 4] [1, 2] [2, 3] [2, 0, 1, 3, 4] rfl rfl rfl rfl (by decide) rfl rfl rfl ⟨rfl, rfl⟩ ⟨Nat.le_of_ble_eq_true rfl, Nat.le_of_ble_eq_true rfl⟩ (Nat.le_of_ble_eq_true rfl) rfl dX5_findOrder_77 ?_
          refine g_iload hC 5 dX5_findOrder_80 rfl ?_
          refine g_iconst (v := (1 : Int32)) hC dX5_findOrder_82 ci_1 ?_
          refine g_isub hC dX5_findOrder_83 ?_
          refine g_istore (lv' := [(9, .int (j4 - (1 : Int32))), (8, .int j6), (7, .int (0 : Int32)), (0, .ref aM), (1, .int j1), (2, .long j2), (4, .int j4), (5, .int j5), (6, .int j6)]) hC dX5_findOrder_84 (by decide) rfl ?_
          refine g_lv (lv' := [(0, .ref aM), (1, .int j1), (2, .long j2), (4, .int j4), (5, .int j5), (6, .int j6), (7, .int (0 : Int32)), (8, .int j6), (9, .int (j4 - (1 : Int32)))]) [3, 4, 5, 6, 7, 8, 2, 1, 0] rfl ?_
          exact t86 k57 hk57 fu j1 j2 j4 j5 j6 (0 : Int32) j6 (j4 - (1 : Int32)) xM_orderBest xM_orderMany xM_turned z77 hf
  have t51 : ∀  (j1 : Int32) (j2 : Int64) (j4 : Int32) (j5 : Int32) (y0 : Int32) (xM_orderBest : Int32) (xM_orderMany : Int32) (xM_turned : Int32) (xMtrial : Nat → Int32), fX5_findOrder_b51 xM_light xM_water xMnerve xMkind xMpage  j1 j2 j4 j5 y0 xM_orderBest xM_orderMany xM_turned xMtrial = some z → kG X 51 [(0, .ref aM), (1, .int j1), (2, .long j2), (4, .int j4), (5, .int j5)] [.int y0, .ref aM] [oO aM 4 [.int xM_thrown, .ref aMtext, .int xM_textSize, .int xM_place, .int xM_walkers, .int xM_light, .int xM_water, .ref aMnerve, .ref aMkind, .int xM_readWalkers, .int xM_readLight, .int xM_readWater, .ref aMreadNerve, .ref aMreadKind, .ref aMpage, .ref aMtrial, .ref aMbook, .int xM_acts, .ref aMkept, .ref aMisKept, .int xM_told, .ref aMtoldMinute, .ref aMtoldHeard, .long xM_seed, .int xM_orderBest, .int xM_orderMany, .ref aMworth, .int xM_turned], oI aMnerve iMnerve 5 xMnerve, oI aMkind iMkind 5 xMkind, oI aMpage iMpage 13 xMpage, oI aMtrial iMtrial 13 xMtrial] := by
    intro j1 j2 j4 j5 y0 xM_orderBest xM_orderMany xM_turned xMtrial hf
    unfold fX5_findOrder_b51 at hf
    refine g_put (C := RX5) (T := TX5) (N := 28) (ty := .int) (ws' := [oO aM 4 [.int xM_thrown, .ref aMtext, .int xM_textSize, .int xM_place, .int xM_walkers, .int xM_light, .int xM_water, .ref aMnerve, .ref aMkind, .int xM_readWalkers, .int xM_readLight, .int xM_readWater, .ref aMreadNerve, .ref aMreadKind, .ref aMpage, .ref aMtrial, .ref aMbook, .int xM_acts, .ref aMkept, .ref aMisKept, .int xM_told, .ref aMtoldMinute, .ref aMtoldHeard, .long xM_seed, .int xM_orderBest, .int y0, .ref aMworth, .int xM_turned], oI aMnerve iMnerve 5 xMnerve, oI aMkind iMkind 5 xMkind, oI aMpage iMpage 13 xMpage, oI aMtrial iMtrial 13 xMtrial]) hC tyX5_ok nmX5 hinX5 0 25 rfl rfl (by decide) (List.mem_of_getElem? (i := 3) rfl) rfl rfl rfl rfl (Nat.le_of_ble_eq_true rfl) dX5_findOrder_51 rfl ?_
    refine g_iconst (v := (0 : Int32)) hC dX5_findOrder_54 ci_0 ?_
    refine g_istore (lv' := [(6, .int (0 : Int32)), (0, .ref aM), (1, .int j1), (2, .long j2), (4, .int j4), (5, .int j5)]) hC dX5_findOrder_55 (by decide) rfl ?_
    refine g_lv (lv' := [(0, .ref aM), (1, .int j1), (2, .long j2), (4, .int j4), (5, .int j5), (6, .int (0 : Int32))]) [1, 2, 3, 4, 5, 0] rfl ?_
    exact t57  fu j1 j2 j4 j5 (0 : Int32) xM_orderBest y0 xM_turned xMtrial hf
  have t14 : ∀  (n : Nat) (j1 : Int32) (j2 : Int64) (j4 : Int32) (j5 : Int32) (j6 : Int32) (xM_orderBest : Int32) (xM_orderMany : Int32) (xM_turned : Int32) (xMtrial : Nat → Int32), lp (fun _ _ _ _ _ _ _ _ _ => none) (fX5_findOrder_b14_S xM_light xM_water xMnerve xMkind xMpage ) n j1 j2 j4 j5 j6 xM_orderBest xM_orderMany xM_turned xMtrial = some z → kG X 14 [(0, .ref aM), (1, .int j1), (2, .long j2), (4, .int j4), (5, .int j5), (6, .int j6)] [] [oO aM 4 [.int xM_thrown, .ref aMtext, .int xM_textSize, .int xM_place, .int xM_walkers, .int xM_light, .int xM_water, .ref aMnerve, .ref aMkind, .int xM_readWalkers, .int xM_readLight, .int xM_readWater, .ref aMreadNerve, .ref aMreadKind, .ref aMpage, .ref aMtrial, .ref aMbook, .int xM_acts, .ref aMkept, .ref aMisKept, .int xM_told, .ref aMtoldMinute, .ref aMtoldHeard, .long xM_seed, .int xM_orderBest, .int xM_orderMany, .ref aMworth, .int xM_turned], oI aMnerve iMnerve 5 xMnerve, oI aMkind iMkind 5 xMkind, oI aMpage iMpage 13 xMpage, oI aMtrial iMtrial 13 xMtrial] := by
    intro  n
    induction n with
    | zero => intro j1 j2 j4 j5 j6 xM_orderBest xM_orderMany xM_turned xMtrial hf; cases hf
    | succ n hk14 =>
      intro j1 j2 j4 j5 j6 xM_orderBest xM_orderMany xM_turned xMtrial hf
      rw [lp_s] at hf
      revert hf hk14
      generalize lp (fun _ _ _ _ _ _ _ _ _ => none) (fX5_findOrder_b14_S xM_light xM_water xMnerve xMkind xMpage ) n = k14
      intro hk14 hf
      unfold fX5_findOrder_b14_S at hf
      refine g_iload hC 5 dX5_findOrder_14 rfl ?_
      refine g_iload hC 3 dX5_findOrder_16 rfl ?_
      refine g_icmp_ge (tgt := 34) hC dX5_findOrder_18 (by decide) (fun hc => ?_) (fun hc => ?_)
      · replace hf := gd_t hc hf
        refine g_aload_n hC 0 dX5_findOrder_34 rfl rfl ?_
        refine g_iconst (v := (0 : Int32)) hC dX5_findOrder_35 ci_0 ?_
        refine g_put (C := RX5) (T := TX5) (N := 28) (ty := .int) (ws' := [oO aM 4 [.int xM_thrown, .ref aMtext, .int xM_textSize, .int xM_place, .int xM_walkers, .int xM_light, .int xM_water, .ref aMnerve, .ref aMkind, .int xM_readWalkers, .int xM_readLight, .int xM_readWater, .ref aMreadNerve, .ref aMreadKind, .ref aMpage, .ref aMtrial, .ref aMbook, .int xM_acts, .ref aMkept, .ref aMisKept, .int xM_told, .ref aMtoldMinute, .ref aMtoldHeard, .long xM_seed, .int (0 : Int32), .int xM_orderMany, .ref aMworth, .int xM_turned], oI aMnerve iMnerve 5 xMnerve, oI aMkind iMkind 5 xMkind, oI aMpage iMpage 13 xMpage, oI aMtrial iMtrial 13 xMtrial]) hC tyX5_ok nmX5 hinX5 0 24 rfl rfl (by decide) (List.mem_of_getElem? (i := 2) rfl) rfl rfl rfl rfl (Nat.le_of_ble_eq_true rfl) dX5_findOrder_36 rfl ?_
        refine g_aload_n hC 0 dX5_findOrder_39 rfl rfl ?_
        refine g_iload hC 3 dX5_findOrder_40 rfl ?_
        refine g_if_ne (tgt := 49) hC dX5_findOrder_42 (by decide) (fun hc => ?_) (fun hc => ?_)
        · replace hf := gd_f hc hf
          refine g_bipush (v := (-9 : Int32)) hC dX5_findOrder_49 cb_m9 ?_
          refine g_lv (lv' := [(0, .ref aM), (1, .int j1), (2, .long j2), (4, .int j4), (5, .int j5)]) [0, 1, 2, 3, 4] rfl ?_
          exact t51  j1 j2 j4 j5 (-9 : Int32) (0 : Int32) xM_orderMany xM_turned xMtrial hf
        · replace hf := gd_t hc hf
          refine g_iconst (v := (0 : Int32)) hC dX5_findOrder_45 ci_0 ?_
          refine g_goto (tgt := 51) hC dX5_findOrder_46 (by decide) ?_
          refine g_lv (lv' := [(0, .ref aM), (1, .int j1), (2, .long j2), (4, .int j4), (5, .int j5)]) [0, 1, 2, 3, 4] rfl ?_
          exact t51  j1 j2 j4 j5 (0 : Int32) (0 : Int32) xM_orderMany xM_turned xMtrial hf
      · replace hf := gd_f hc hf
        refine g_iload hC 4 dX5_findOrder_21 rfl ?_
        refine g_bipush (v := (10 : Int32)) hC dX5_findOrder_23 cb_10 ?_
        refine g_imul hC dX5_findOrder_25 ?_
        refine g_istore (lv' := [(5, .int (j5 * (10 : Int32))), (0, .ref aM), (1, .int j1), (2, .long j2), (4, .int j4), (6, .int j6)]) hC dX5_findOrder_26 (by decide) rfl ?_
        refine g_iinc (v := (j6 + (1 : Int32))) (lv' := [(6, .int (j6 + (1 : Int32))), (5, .int (j5 * (10 : Int32))), (0, .ref aM), (1, .int j1), (2, .long j2), (4, .int j4)]) hC 5 dX5_findOrder_28 rfl (ii _ ci_1) (by decide) rfl ?_
        refine g_goto (tgt := 14) hC dX5_findOrder_31 (by decide) ?_
        refine g_lv (lv' := [(0, .ref aM), (1, .int j1), (2, .long j2), (4, .int j4), (5, .int (j5 * (10 : Int32))), (6, .int (j6 + (1 : Int32)))]) [2, 3, 4, 5, 1, 0] rfl ?_
        exact hk14 j1 j2 j4 (j5 * (10 : Int32)) (j6 + (1 : Int32)) xM_orderBest xM_orderMany xM_turned xMtrial hf
  unfold fX5_findOrder at hf
  refine g_aload_n hC 0 dX5_findOrder_0 rfl rfl ?_
  refine g_get (C := RX5) (T := TX5) (N := 28) (v := .ref aMpage) hC hinX5 0 14 rfl rfl (by decide) (List.mem_of_getElem? (i := 1) rfl) rfl dX5_findOrder_1 ?_
  refine g_iconst (v := (5 : Int32)) hC dX5_findOrder_4 ci_5 ?_
  obtain ⟨hg, hf⟩ := gd_ga hf
  refine g_iald hC 3 2 hg rfl rfl dX5_findOrder_5 ?_
  refine g_istore (lv' := [(4, .int (xMpage (5 : Int32).toNatClampNeg)), (0, .ref aM), (1, .int j1), (2, .long j2)]) hC dX5_findOrder_6 (by decide) rfl ?_
  refine g_iconst (v := (1 : Int32)) hC dX5_findOrder_8 ci_1 ?_
  refine g_istore (lv' := [(5, .int (1 : Int32)), (4, .int (xMpage (5 : Int32).toNatClampNeg)), (0, .ref aM), (1, .int j1), (2, .long j2)]) hC dX5_findOrder_9 (by decide) rfl ?_
  refine g_iconst (v := (0 : Int32)) hC dX5_findOrder_11 ci_0 ?_
  refine g_istore (lv' := [(6, .int (0 : Int32)), (5, .int (1 : Int32)), (4, .int (xMpage (5 : Int32).toNatClampNeg)), (0, .ref aM), (1, .int j1), (2, .long j2)]) hC dX5_findOrder_12 (by decide) rfl ?_
  refine g_lv (lv' := [(0, .ref aM), (1, .int j1), (2, .long j2), (4, .int (xMpage (5 : Int32).toNatClampNeg)), (5, .int (1 : Int32)), (6, .int (0 : Int32))]) [3, 4, 5, 2, 1, 0] rfl ?_
  exact t14  fu j1 j2 (xMpage (5 : Int32).toNatClampNeg) (1 : Int32) (0 : Int32) xM_orderBest xM_orderMany xM_turned xMtrial hf
theorem kyX5_order : yX5_order.cls = RX5 ∧ yX5_order.cls ≠ "java/lang/invoke/MethodHandle" ∧ yX5_order.cls ≠ "java/lang/invoke/VarHandle" ∧ (parseMethodDescriptor yX5_order.desc).map (fun d => d.parameters.length) = some 3 := by decide +kernel
set_option maxHeartbeats 4000000 in
set_option maxRecDepth 100000 in
theorem cX5_order_m (l : Launch) (D : va_G) (aM aMtext aMnerve aMkind aMreadNerve aMreadKind aMpage aMtrial aMbook aMkept aMisKept aMtoldMinute aMtoldHeard aMworth : Nat) (iMnerve iMkind iMpage iMtrial : ClassId) (xM_thrown : Int32) (xM_textSize : Int32) (xM_place : Int32) (xM_walkers : Int32) (xM_light : Int32) (xM_water : Int32) (xM_readWalkers : Int32) (xM_readLight : Int32) (xM_readWater : Int32) (xM_acts : Int32) (xM_told : Int32) (xM_seed : Int64) (xM_orderBest : Int32) (xM_orderMany : Int32) (xM_turned : Int32) (xMnerve : Nat → Int32) (xMkind : Nat → Int32) (xMpage : Nat → Int32) (xMtrial : Nat → Int32) (j1 : Int32) (j2 : Int64) (j4 : Int32) (z : Int32 × Int32 × Int32 × Int32 × Int32 × (Nat → Int32)) (hf : fX5_order j1 j2 j4 xM_thrown xM_light xM_water xM_orderBest xM_orderMany xM_turned xMnerve xMkind xMpage xMtrial = some z) : ∀ sz : Nat, Met l yX5_order wsX5_order ({ frames := 5, cells := 0, slots := 0, locals := 127 } : Room) (kPre D [(iMnerve, .int), (iMkind, .int), (iMpage, .int), (iMtrial, .int)] [oO aM 4 [.int xM_thrown, .ref aMtext, .int xM_textSize, .int xM_place, .int xM_walkers, .int xM_light, .int xM_water, .ref aMnerve, .ref aMkind, .int xM_readWalkers, .int xM_readLight, .int xM_readWater, .ref aMreadNerve, .ref aMreadKind, .ref aMpage, .ref aMtrial, .ref aMbook, .int xM_acts, .ref aMkept, .ref aMisKept, .int xM_told, .ref aMtoldMinute, .ref aMtoldHeard, .long xM_seed, .int xM_orderBest, .int xM_orderMany, .ref aMworth, .int xM_turned], oI aMnerve iMnerve 5 xMnerve, oI aMkind iMkind 5 xMkind, oI aMpage iMpage 13 xMpage, oI aMtrial iMtrial 13 xMtrial] sz [.ref aM, .int j1, .long j2, .int j4]) (kQi D [(iMnerve, .int), (iMkind, .int), (iMpage, .int), (iMtrial, .int)] [oO aM 4 [.int xM_thrown, .ref aMtext, .int xM_textSize, .int xM_place, .int xM_walkers, .int xM_light, .int xM_water, .ref aMnerve, .ref aMkind, .int xM_readWalkers, .int xM_readLight, .int xM_readWater, .ref aMreadNerve, .ref aMreadKind, .ref aMpage, .ref aMtrial, .ref aMbook, .int xM_acts, .ref aMkept, .ref aMisKept, .int xM_told, .ref aMtoldMinute, .ref aMtoldHeard, .long xM_seed, .int xM_orderBest, .int xM_orderMany, .ref aMworth, .int xM_turned], oI aMnerve iMnerve 5 xMnerve, oI aMkind iMkind 5 xMkind, oI aMpage iMpage 13 xMpage, oI aMtrial iMtrial 13 xMtrial] sz [oO aM 4 [.int z.2.1, .ref aMtext, .int xM_textSize, .int xM_place, .int xM_walkers, .int xM_light, .int xM_water, .ref aMnerve, .ref aMkind, .int xM_readWalkers, .int xM_readLight, .int xM_readWater, .ref aMreadNerve, .ref aMreadKind, .ref aMpage, .ref aMtrial, .ref aMbook, .int xM_acts, .ref aMkept, .ref aMisKept, .int xM_told, .ref aMtoldMinute, .ref aMtoldHeard, .long xM_seed, .int z.2.2.1, .int z.2.2.2.1, .ref aMworth, .int z.2.2.2.2.1], oI aMnerve iMnerve 5 xMnerve, oI aMkind iMkind 5 xMkind, oI aMpage iMpage 13 xMpage, oI aMtrial iMtrial 13 z.2.2.2.2.2] z.1) 0 0 (va_A [oO aM 4 [.int xM_thrown, .ref aMtext, .int xM_textSize, .int xM_place, .int xM_walkers, .int xM_light, .int xM_water, .ref aMnerve, .ref aMkind, .int xM_readWalkers, .int xM_readLight, .int xM_readWater, .ref aMreadNerve, .ref aMreadKind, .ref aMpage, .ref aMtrial, .ref aMbook, .int xM_acts, .ref aMkept, .ref aMisKept, .int xM_told, .ref aMtoldMinute, .ref aMtoldHeard, .long xM_seed, .int xM_orderBest, .int xM_orderMany, .ref aMworth, .int xM_turned], oI aMnerve iMnerve 5 xMnerve, oI aMkind iMkind 5 xMkind, oI aMpage iMpage 13 xMpage, oI aMtrial iMtrial 13 xMtrial] sz) := by
  refine kMet_i (own := RX5) z (fun u => u.1) (fun u => [oO aM 4 [.int u.2.1, .ref aMtext, .int xM_textSize, .int xM_place, .int xM_walkers, .int xM_light, .int xM_water, .ref aMnerve, .ref aMkind, .int xM_readWalkers, .int xM_readLight, .int xM_readWater, .ref aMreadNerve, .ref aMreadKind, .ref aMpage, .ref aMtrial, .ref aMbook, .int xM_acts, .ref aMkept, .ref aMisKept, .int xM_told, .ref aMtoldMinute, .ref aMtoldHeard, .long xM_seed, .int u.2.2.1, .int u.2.2.2.1, .ref aMworth, .int u.2.2.2.2.1], oI aMnerve iMnerve 5 xMnerve, oI aMkind iMkind 5 xMkind, oI aMpage iMpage 13 xMpage, oI aMtrial iMtrial 13 u.2.2.2.2.2]) rfl (by decide) rfl ⟨rfl, rfl⟩ (Nat.le_of_ble_eq_true rfl) ?_
  intro X hXl hXD hC hQ
  subst hXl
  subst hXD
  change kG X 0 [(0, .ref aM), (1, .int j1), (2, .long j2), (4, .int j4)] [] [oO aM 4 [.int xM_thrown, .ref aMtext, .int xM_textSize, .int xM_place, .int xM_walkers, .int xM_light, .int xM_water, .ref aMnerve, .ref aMkind, .int xM_readWalkers, .int xM_readLight, .int xM_readWater, .ref aMreadNerve, .ref aMreadKind, .ref aMpage, .ref aMtrial, .ref aMbook, .int xM_acts, .ref aMkept, .ref aMisKept, .int xM_told, .ref aMtoldMinute, .ref aMtoldHeard, .long xM_seed, .int xM_orderBest, .int xM_orderMany, .ref aMworth, .int xM_turned], oI aMnerve iMnerve 5 xMnerve, oI aMkind iMkind 5 xMkind, oI aMpage iMpage 13 xMpage, oI aMtrial iMtrial 13 xMtrial]
  have hinX5 : ∀ w ∈ wsX50, w ∈ wsX5_order := fun _ h => List.mem_cons_of_mem _ (List.mem_append_right _ h)
  unfold fX5_order at hf
  refine g_aload_n hC 0 dX5_order_0 rfl rfl ?_
  refine g_iconst (v := (0 : Int32)) hC dX5_order_1 ci_0 ?_
  refine g_put (C := RX5) (T := TX5) (N := 28) (ty := .int) (ws' := [oO aM 4 [.int (0 : Int32), .ref aMtext, .int xM_textSize, .int xM_place, .int xM_walkers, .int xM_light, .int xM_water, .ref aMnerve, .ref aMkind, .int xM_readWalkers, .int xM_readLight, .int xM_readWater, .ref aMreadNerve, .ref aMreadKind, .ref aMpage, .ref aMtrial, .ref aMbook, .int xM_acts, .ref aMkept, .ref aMisKept, .int xM_told, .ref aMtoldMinute, .ref aMtoldHeard, .long xM_seed, .int xM_orderBest, .int xM_orderMany, .ref aMworth, .int xM_turned], oI aMnerve iMnerve 5 xMnerve, oI aMkind iMkind 5 xMkind, oI aMpage iMpage 13 xMpage, oI aMtrial iMtrial 13 xMtrial]) hC tyX5_ok nmX5 hinX5 0 0 rfl rfl (by decide) (List.mem_of_getElem? (i := 1) rfl) rfl rfl rfl rfl (Nat.le_of_ble_eq_true rfl) dX5_order_2 rfl ?_
  refine g_iload_n hC 1 dX5_order_5 rfl rfl ?_
  refine g_lload_n hC 2 dX5_order_6 rfl rfl ?_
  obtain ⟨z7, hz7, hf⟩ := gd_b hf
  refine g_callSi (wr := [oO aM 4 [.int (0 : Int32), .ref aMtext, .int xM_textSize, .int xM_place, .int xM_walkers, .int xM_light, .int xM_water, .ref aMnerve, .ref aMkind, .int xM_readWalkers, .int xM_readLight, .int xM_readWater, .ref aMreadNerve, .ref aMreadKind, .ref aMpage, .ref aMtrial, .ref aMbook, .int xM_acts, .ref aMkept, .ref aMisKept, .int xM_told, .ref aMtoldMinute, .ref aMtoldHeard, .long xM_seed, .int xM_orderBest, .int xM_orderMany, .ref aMworth, .int xM_turned], oI aMnerve iMnerve 5 xMnerve, oI aMkind iMkind 5 xMkind, oI aMpage iMpage 13 xMpage, oI aMtrial iMtrial 13 xMtrial]) (wn := [oO aM 4 [.int (0 : Int32), .ref aMtext, .int xM_textSize, .int xM_place, .int xM_walkers, .int xM_light, .int xM_water, .ref aMnerve, .ref aMkind, .int xM_readWalkers, .int xM_readLight, .int xM_readWater, .ref aMreadNerve, .ref aMreadKind, .ref aMpage, .ref aMtrial, .ref aMbook, .int xM_acts, .ref aMkept, .ref aMisKept, .int xM_told, .ref aMtoldMinute, .ref aMtoldHeard, .long xM_seed, .int xM_orderBest, .int xM_orderMany, .ref aMworth, .int xM_turned], oI aMnerve iMnerve 5 xMnerve, oI aMkind iMkind 5 xMkind, oI aMpage iMpage 13 xMpage, oI aMtrial iMtrial 13 xMtrial]) hC [.int j1, .long j2] (cX5_noSong_m (kl X) (kD X) j1 j2 z7 hz7) gX5_order_X5_noSong rfl kyX5_noSong rfl [] [0, 1, 2, 3, 4] [] [0, 1, 2, 3, 4] rfl rfl rfl rfl (by decide) rfl rfl rfl ⟨rfl, rfl⟩ ⟨Nat.le_of_ble_eq_true rfl, Nat.le_of_ble_eq_true rfl⟩ (Nat.le_of_ble_eq_true rfl) rfl dX5_order_7 ?_
  refine g_if_ne (tgt := 24) hC dX5_order_10 (by decide) (fun hc => ?_) (fun hc => ?_)
  · replace hf := gd_f hc hf
    refine g_bipush (v := (-2 : Int32)) hC dX5_order_24 cb_m2 ?_
    exact hQ ((-2 : Int32), (0 : Int32), xM_orderBest, xM_orderMany, xM_turned, xMtrial) _ _ (gd_s hf) dX5_order_26
  · replace hf := gd_t hc hf
    refine g_iload hC 3 dX5_order_13 rfl ?_
    refine g_i2l hC dX5_order_15 ?_
    refine g_lconst (v := (0 : Int64)) hC dX5_order_16 rfl ?_
    refine g_lconst (v := (1 : Int64)) hC dX5_order_17 rfl ?_
    obtain ⟨z18, hz18, hf⟩ := gd_b hf
    refine g_callSi (wr := [oO aM 4 [.int (0 : Int32), .ref aMtext, .int xM_textSize, .int xM_place, .int xM_walkers, .int xM_light, .int xM_water, .ref aMnerve, .ref aMkind, .int xM_readWalkers, .int xM_readLight, .int xM_readWater, .ref aMreadNerve, .ref aMreadKind, .ref aMpage, .ref aMtrial, .ref aMbook, .int xM_acts, .ref aMkept, .ref aMisKept, .int xM_told, .ref aMtoldMinute, .ref aMtoldHeard, .long xM_seed, .int xM_orderBest, .int xM_orderMany, .ref aMworth, .int xM_turned], oI aMnerve iMnerve 5 xMnerve, oI aMkind iMkind 5 xMkind, oI aMpage iMpage 13 xMpage, oI aMtrial iMtrial 13 xMtrial]) (wn := [oO aM 4 [.int (0 : Int32), .ref aMtext, .int xM_textSize, .int xM_place, .int xM_walkers, .int xM_light, .int xM_water, .ref aMnerve, .ref aMkind, .int xM_readWalkers, .int xM_readLight, .int xM_readWater, .ref aMreadNerve, .ref aMreadKind, .ref aMpage, .ref aMtrial, .ref aMbook, .int xM_acts, .ref aMkept, .ref aMisKept, .int xM_told, .ref aMtoldMinute, .ref aMtoldHeard, .long xM_seed, .int xM_orderBest, .int xM_orderMany, .ref aMworth, .int xM_turned], oI aMnerve iMnerve 5 xMnerve, oI aMkind iMkind 5 xMkind, oI aMpage iMpage 13 xMpage, oI aMtrial iMtrial 13 xMtrial]) hC [.long j4.toInt64, .long (0 : Int64), .long (1 : Int64)] (cX5_in_m (kl X) (kD X) j4.toInt64 (0 : Int64) (1 : Int64) z18 hz18) gX5_order_X5_in rfl kyX5_in rfl [] [0, 1, 2, 3, 4] [] [0, 1, 2, 3, 4] rfl rfl rfl rfl (by decide) rfl rfl rfl ⟨rfl, rfl⟩ ⟨Nat.le_of_ble_eq_true rfl, Nat.le_of_ble_eq_true rfl⟩ (Nat.le_of_ble_eq_true rfl) rfl dX5_order_18 ?_
    refine g_if_ne (tgt := 27) hC dX5_order_21 (by decide) (fun hc => ?_) (fun hc => ?_)
    · replace hf := gd_f hc hf
      refine g_aload_n hC 0 dX5_order_27 rfl rfl ?_
      refine g_iload_n hC 1 dX5_order_28 rfl rfl ?_
      refine g_lload_n hC 2 dX5_order_29 rfl rfl ?_
      obtain ⟨z30, hz30, hf⟩ := gd_b hf
      refine g_callVv (wr := []) (wn := [oO aM 4 [.int (0 : Int32), .ref aMtext, .int xM_textSize, .int xM_place, .int xM_walkers, .int xM_light, .int xM_water, .ref aMnerve, .ref aMkind, .int xM_readWalkers, .int xM_readLight, .int xM_readWater, .ref aMreadNerve, .ref aMreadKind, .ref aMpage, .ref aMtrial, .ref aMbook, .int xM_acts, .ref aMkept, .ref aMisKept, .int xM_told, .ref aMtoldMinute, .ref aMtoldHeard, .long xM_seed, .int z30.1, .int z30.2.1, .ref aMworth, .int z30.2.2.1], oI aMnerve iMnerve 5 xMnerve, oI aMkind iMkind 5 xMkind, oI aMpage iMpage 13 xMpage, oI aMtrial iMtrial 13 z30.2.2.2]) hC [.int j1, .long j2] (cX5_findOrder_m (kl X) (kD X) aM aMtext aMnerve aMkind aMreadNerve aMreadKind aMpage aMtrial aMbook aMkept aMisKept aMtoldMinute aMtoldHeard aMworth iMnerve iMkind iMpage iMtrial (0 : Int32) xM_textSize xM_place xM_walkers xM_light xM_water xM_readWalkers xM_readLight xM_readWater xM_acts xM_told xM_seed xM_orderBest xM_orderMany xM_turned xMnerve xMkind xMpage xMtrial j1 j2 z30 hz30) gX5_order_X5_findOrder rfl kyX5_findOrder rfl rfl rfl (q0 := 0) rfl [0, 1, 2, 3, 4] [] [0, 1, 2, 3] [0, 1, 2, 3, 4] rfl rfl rfl rfl (by decide) rfl rfl rfl ⟨rfl, rfl⟩ ⟨Nat.le_of_ble_eq_true rfl, Nat.le_of_ble_eq_true rfl⟩ (Nat.le_of_ble_eq_true rfl) rfl dX5_order_30 ?_
      refine g_iload hC 3 dX5_order_33 rfl ?_
      refine g_if_ne (tgt := 45) hC dX5_order_35 (by decide) (fun hc => ?_) (fun hc => ?_)
      · replace hf := gd_f hc hf
        refine g_aload_n hC 0 dX5_order_45 rfl rfl ?_
        refine g_get (C := RX5) (T := TX5) (N := 28) (v := .int z30.2.1) hC hinX5 0 25 rfl rfl (by decide) (List.mem_of_getElem? (i := 3) rfl) rfl dX5_order_46 ?_
        exact hQ (z30.2.1, (0 : Int32), z30.1, z30.2.1, z30.2.2.1, z30.2.2.2) _ _ (gd_s hf) dX5_order_49
      · replace hf := gd_t hc hf
        refine g_aload_n hC 0 dX5_order_38 rfl rfl ?_
        refine g_get (C := RX5) (T := TX5) (N := 28) (v := .int z30.1) hC hinX5 0 24 rfl rfl (by decide) (List.mem_of_getElem? (i := 2) rfl) rfl dX5_order_39 ?_
        refine g_goto (tgt := 49) hC dX5_order_42 (by decide) ?_
        exact hQ (z30.1, (0 : Int32), z30.1, z30.2.1, z30.2.2.1, z30.2.2.2) _ _ (gd_s hf) dX5_order_49
    · replace hf := gd_t hc hf
      refine g_bipush (v := (-2 : Int32)) hC dX5_order_24 cb_m2 ?_
      exact hQ ((-2 : Int32), (0 : Int32), xM_orderBest, xM_orderMany, xM_turned, xMtrial) _ _ (gd_s hf) dX5_order_26
theorem kyX5_worthOf : yX5_worthOf.cls = RX5 ∧ yX5_worthOf.cls ≠ "java/lang/invoke/MethodHandle" ∧ yX5_worthOf.cls ≠ "java/lang/invoke/VarHandle" ∧ (parseMethodDescriptor yX5_worthOf.desc).map (fun d => d.parameters.length) = some 3 := by decide +kernel
set_option maxHeartbeats 4000000 in
set_option maxRecDepth 100000 in
theorem cX5_worthOf_m (l : Launch) (D : va_G) (aM aMtext aMnerve aMkind aMreadNerve aMreadKind aMpage aMtrial aMbook aMkept aMisKept aMtoldMinute aMtoldHeard aMworth : Nat) (iMnerve iMkind iMpage iMtrial : ClassId) (xM_thrown : Int32) (xM_textSize : Int32) (xM_place : Int32) (xM_walkers : Int32) (xM_light : Int32) (xM_water : Int32) (xM_readWalkers : Int32) (xM_readLight : Int32) (xM_readWater : Int32) (xM_acts : Int32) (xM_told : Int32) (xM_seed : Int64) (xM_orderBest : Int32) (xM_orderMany : Int32) (xM_turned : Int32) (xMnerve : Nat → Int32) (xMkind : Nat → Int32) (xMpage : Nat → Int32) (xMtrial : Nat → Int32) (j1 : Int32) (j2 : Int32) (j3 : Int64) (z : Int32 × Int32 × (Nat → Int32)) (hf : fX5_worthOf j1 j2 j3 xM_light xM_water xM_turned xMnerve xMkind xMpage xMtrial = some z) : ∀ sz : Nat, Met l yX5_worthOf wsX5_worthOf ({ frames := 4, cells := 0, slots := 0, locals := 97 } : Room) (kPre D [(iMnerve, .int), (iMkind, .int), (iMpage, .int), (iMtrial, .int)] [oO aM 4 [.int xM_thrown, .ref aMtext, .int xM_textSize, .int xM_place, .int xM_walkers, .int xM_light, .int xM_water, .ref aMnerve, .ref aMkind, .int xM_readWalkers, .int xM_readLight, .int xM_readWater, .ref aMreadNerve, .ref aMreadKind, .ref aMpage, .ref aMtrial, .ref aMbook, .int xM_acts, .ref aMkept, .ref aMisKept, .int xM_told, .ref aMtoldMinute, .ref aMtoldHeard, .long xM_seed, .int xM_orderBest, .int xM_orderMany, .ref aMworth, .int xM_turned], oI aMnerve iMnerve 5 xMnerve, oI aMkind iMkind 5 xMkind, oI aMpage iMpage 13 xMpage, oI aMtrial iMtrial 13 xMtrial] sz [.ref aM, .int j1, .int j2, .long j3]) (kQi D [(iMnerve, .int), (iMkind, .int), (iMpage, .int), (iMtrial, .int)] [oO aM 4 [.int xM_thrown, .ref aMtext, .int xM_textSize, .int xM_place, .int xM_walkers, .int xM_light, .int xM_water, .ref aMnerve, .ref aMkind, .int xM_readWalkers, .int xM_readLight, .int xM_readWater, .ref aMreadNerve, .ref aMreadKind, .ref aMpage, .ref aMtrial, .ref aMbook, .int xM_acts, .ref aMkept, .ref aMisKept, .int xM_told, .ref aMtoldMinute, .ref aMtoldHeard, .long xM_seed, .int xM_orderBest, .int xM_orderMany, .ref aMworth, .int xM_turned], oI aMnerve iMnerve 5 xMnerve, oI aMkind iMkind 5 xMkind, oI aMpage iMpage 13 xMpage, oI aMtrial iMtrial 13 xMtrial] sz [oO aM 4 [.int xM_thrown, .ref aMtext, .int xM_textSize, .int xM_place, .int xM_walkers, .int xM_light, .int xM_water, .ref aMnerve, .ref aMkind, .int xM_readWalkers, .int xM_readLight, .int xM_readWater, .ref aMreadNerve, .ref aMreadKind, .ref aMpage, .ref aMtrial, .ref aMbook, .int xM_acts, .ref aMkept, .ref aMisKept, .int xM_told, .ref aMtoldMinute, .ref aMtoldHeard, .long xM_seed, .int xM_orderBest, .int xM_orderMany, .ref aMworth, .int z.2.1], oI aMnerve iMnerve 5 xMnerve, oI aMkind iMkind 5 xMkind, oI aMpage iMpage 13 xMpage, oI aMtrial iMtrial 13 z.2.2] z.1) 0 0 (va_A [oO aM 4 [.int xM_thrown, .ref aMtext, .int xM_textSize, .int xM_place, .int xM_walkers, .int xM_light, .int xM_water, .ref aMnerve, .ref aMkind, .int xM_readWalkers, .int xM_readLight, .int xM_readWater, .ref aMreadNerve, .ref aMreadKind, .ref aMpage, .ref aMtrial, .ref aMbook, .int xM_acts, .ref aMkept, .ref aMisKept, .int xM_told, .ref aMtoldMinute, .ref aMtoldHeard, .long xM_seed, .int xM_orderBest, .int xM_orderMany, .ref aMworth, .int xM_turned], oI aMnerve iMnerve 5 xMnerve, oI aMkind iMkind 5 xMkind, oI aMpage iMpage 13 xMpage, oI aMtrial iMtrial 13 xMtrial] sz) := by
  refine kMet_i (own := RX5) z (fun u => u.1) (fun u => [oO aM 4 [.int xM_thrown, .ref aMtext, .int xM_textSize, .int xM_place, .int xM_walkers, .int xM_light, .int xM_water, .ref aMnerve, .ref aMkind, .int xM_readWalkers, .int xM_readLight, .int xM_readWater, .ref aMreadNerve, .ref aMreadKind, .ref aMpage, .ref aMtrial, .ref aMbook, .int xM_acts, .ref aMkept, .ref aMisKept, .int xM_told, .ref aMtoldMinute, .ref aMtoldHeard, .long xM_seed, .int xM_orderBest, .int xM_orderMany, .ref aMworth, .int u.2.1], oI aMnerve iMnerve 5 xMnerve, oI aMkind iMkind 5 xMkind, oI aMpage iMpage 13 xMpage, oI aMtrial iMtrial 13 u.2.2]) rfl (by decide) rfl ⟨rfl, rfl⟩ (Nat.le_of_ble_eq_true rfl) ?_
  intro X hXl hXD hC hQ
  subst hXl
  subst hXD
  change kG X 0 [(0, .ref aM), (1, .int j1), (2, .int j2), (3, .long j3)] [] [oO aM 4 [.int xM_thrown, .ref aMtext, .int xM_textSize, .int xM_place, .int xM_walkers, .int xM_light, .int xM_water, .ref aMnerve, .ref aMkind, .int xM_readWalkers, .int xM_readLight, .int xM_readWater, .ref aMreadNerve, .ref aMreadKind, .ref aMpage, .ref aMtrial, .ref aMbook, .int xM_acts, .ref aMkept, .ref aMisKept, .int xM_told, .ref aMtoldMinute, .ref aMtoldHeard, .long xM_seed, .int xM_orderBest, .int xM_orderMany, .ref aMworth, .int xM_turned], oI aMnerve iMnerve 5 xMnerve, oI aMkind iMkind 5 xMkind, oI aMpage iMpage 13 xMpage, oI aMtrial iMtrial 13 xMtrial]
  have hinX5 : ∀ w ∈ wsX50, w ∈ wsX5_worthOf := fun _ h => List.mem_cons_of_mem _ (List.mem_append_right _ h)
  have t56 : ∀ (k14 : Int32 → Int32 → Int64 → Int32 → Int32 → Int32 → (Nat → Int32) → Option (Int32 × Int32 × (Nat → Int32))) (hk14 : ∀ (j1 : Int32) (j2 : Int32) (j3 : Int64) (j5 : Int32) (j6 : Int32) (xM_turned : Int32) (xMtrial : Nat → Int32), k14 j1 j2 j3 j5 j6 xM_turned xMtrial = some z → kG X 14 [(0, .ref aM), (1, .int j1), (2, .int j2), (3, .long j3), (5, .int j5), (6, .int j6)] [] [oO aM 4 [.int xM_thrown, .ref aMtext, .int xM_textSize, .int xM_place, .int xM_walkers, .int xM_light, .int xM_water, .ref aMnerve, .ref aMkind, .int xM_readWalkers, .int xM_readLight, .int xM_readWater, .ref aMreadNerve, .ref aMreadKind, .ref aMpage, .ref aMtrial, .ref aMbook, .int xM_acts, .ref aMkept, .ref aMisKept, .int xM_told, .ref aMtoldMinute, .ref aMtoldHeard, .long xM_seed, .int xM_orderBest, .int xM_orderMany, .ref aMworth, .int xM_turned], oI aMnerve iMnerve 5 xMnerve, oI aMkind iMkind 5 xMkind, oI aMpage iMpage 13 xMpage, oI aMtrial iMtrial 13 xMtrial]) (j1 : Int32) (j2 : Int32) (j3 : Int64) (j5 : Int32) (j6 : Int32) (xM_turned : Int32) (xMtrial : Nat → Int32), fX5_worthOf_b56 xM_light xM_water xMnerve xMkind xMpage k14 j1 j2 j3 j5 j6 xM_turned xMtrial = some z → kG X 56 [(0, .ref aM), (1, .int j1), (2, .int j2), (3, .long j3), (5, .int j5), (6, .int j6)] [] [oO aM 4 [.int xM_thrown, .ref aMtext, .int xM_textSize, .int xM_place, .int xM_walkers, .int xM_light, .int xM_water, .ref aMnerve, .ref aMkind, .int xM_readWalkers, .int xM_readLight, .int xM_readWater, .ref aMreadNerve, .ref aMreadKind, .ref aMpage, .ref aMtrial, .ref aMbook, .int xM_acts, .ref aMkept, .ref aMisKept, .int xM_told, .ref aMtoldMinute, .ref aMtoldHeard, .long xM_seed, .int xM_orderBest, .int xM_orderMany, .ref aMworth, .int xM_turned], oI aMnerve iMnerve 5 xMnerve, oI aMkind iMkind 5 xMkind, oI aMpage iMpage 13 xMpage, oI aMtrial iMtrial 13 xMtrial] := by
    intro k14 hk14 j1 j2 j3 j5 j6 xM_turned xMtrial hf
    unfold fX5_worthOf_b56 at hf
    refine g_iinc (v := (j6 + (1 : Int32))) (lv' := [(6, .int (j6 + (1 : Int32))), (0, .ref aM), (1, .int j1), (2, .int j2), (3, .long j3), (5, .int j5)]) hC 5 dX5_worthOf_56 rfl (ii _ ci_1) (by decide) rfl ?_
    refine g_goto (tgt := 14) hC dX5_worthOf_59 (by decide) ?_
    refine g_lv (lv' := [(0, .ref aM), (1, .int j1), (2, .int j2), (3, .long j3), (5, .int j5), (6, .int (j6 + (1 : Int32)))]) [1, 2, 3, 4, 5, 0] rfl ?_
    exact hk14 j1 j2 j3 j5 (j6 + (1 : Int32)) xM_turned xMtrial hf
  have t14 : ∀  (n : Nat) (j1 : Int32) (j2 : Int32) (j3 : Int64) (j5 : Int32) (j6 : Int32) (xM_turned : Int32) (xMtrial : Nat → Int32), lp (fun _ _ _ _ _ _ _ => none) (fX5_worthOf_b14_S xM_light xM_water xMnerve xMkind xMpage ) n j1 j2 j3 j5 j6 xM_turned xMtrial = some z → kG X 14 [(0, .ref aM), (1, .int j1), (2, .int j2), (3, .long j3), (5, .int j5), (6, .int j6)] [] [oO aM 4 [.int xM_thrown, .ref aMtext, .int xM_textSize, .int xM_place, .int xM_walkers, .int xM_light, .int xM_water, .ref aMnerve, .ref aMkind, .int xM_readWalkers, .int xM_readLight, .int xM_readWater, .ref aMreadNerve, .ref aMreadKind, .ref aMpage, .ref aMtrial, .ref aMbook, .int xM_acts, .ref aMkept, .ref aMisKept, .int xM_told, .ref aMtoldMinute, .ref aMtoldHeard, .long xM_seed, .int xM_orderBest, .int xM_orderMany, .ref aMworth, .int xM_turned], oI aMnerve iMnerve 5 xMnerve, oI aMkind iMkind 5 xMkind, oI aMpage iMpage 13 xMpage, oI aMtrial iMtrial 13 xMtrial] := by
    intro  n
    induction n with
    | zero => intro j1 j2 j3 j5 j6 xM_turned xMtrial hf; cases hf
    | succ n hk14 =>
      intro j1 j2 j3 j5 j6 xM_turned xMtrial hf
      rw [lp_s] at hf
      revert hf hk14
      generalize lp (fun _ _ _ _ _ _ _ => none) (fX5_worthOf_b14_S xM_light xM_water xMnerve xMkind xMpage ) n = k14
      intro hk14 hf
      unfold fX5_worthOf_b14_S at hf
      refine g_iload hC 5 dX5_worthOf_14 rfl ?_
      refine g_aload_n hC 0 dX5_worthOf_16 rfl rfl ?_
      refine g_get (C := RX5) (T := TX5) (N := 28) (v := .ref aMpage) hC hinX5 0 14 rfl rfl (by decide) (List.mem_of_getElem? (i := 1) rfl) rfl dX5_worthOf_17 ?_
      refine g_iconst (v := (5 : Int32)) hC dX5_worthOf_20 ci_5 ?_
      obtain ⟨hg, hf⟩ := gd_ga hf
      refine g_iald hC 3 2 hg rfl rfl dX5_worthOf_21 ?_
      refine g_icmp_ge (tgt := 62) hC dX5_worthOf_22 (by decide) (fun hc => ?_) (fun hc => ?_)
      · replace hf := gd_t hc hf
        refine g_aload_n hC 0 dX5_worthOf_62 rfl rfl ?_
        refine g_get (C := RX5) (T := TX5) (N := 28) (v := .ref aMtrial) hC hinX5 0 15 rfl rfl (by decide) (List.mem_of_getElem? (i := 2) rfl) rfl dX5_worthOf_63 ?_
        refine g_iconst (v := (5 : Int32)) hC dX5_worthOf_66 ci_5 ?_
        refine g_iload hC 4 dX5_worthOf_67 rfl ?_
        obtain ⟨hg, hf⟩ := gd_ga hf
        refine g_iast (ws' := [oO aM 4 [.int xM_thrown, .ref aMtext, .int xM_textSize, .int xM_place, .int xM_walkers, .int xM_light, .int xM_water, .ref aMnerve, .ref aMkind, .int xM_readWalkers, .int xM_readLight, .int xM_readWater, .ref aMreadNerve, .ref aMreadKind, .ref aMpage, .ref aMtrial, .ref aMbook, .int xM_acts, .ref aMkept, .ref aMisKept, .int xM_told, .ref aMtoldMinute, .ref aMtoldHeard, .long xM_seed, .int xM_orderBest, .int xM_orderMany, .ref aMworth, .int xM_turned], oI aMnerve iMnerve 5 xMnerve, oI aMkind iMkind 5 xMkind, oI aMpage iMpage 13 xMpage, oI aMtrial iMtrial 13 (upd xMtrial (5 : Int32).toNatClampNeg j5)]) hC 4 3 hg rfl rfl dX5_worthOf_69 rfl ?_
        refine g_aload_n hC 0 dX5_worthOf_70 rfl rfl ?_
        refine g_iload_n hC 2 dX5_worthOf_71 rfl rfl ?_
        refine g_lload_n hC 3 dX5_worthOf_72 rfl rfl ?_
        obtain ⟨z73, hz73, hf⟩ := gd_b hf
        refine g_callVi (wr := [oI aMpage iMpage 13 xMpage]) (wn := [oO aM 4 [.int xM_thrown, .ref aMtext, .int xM_textSize, .int xM_place, .int xM_walkers, .int xM_light, .int xM_water, .ref aMnerve, .ref aMkind, .int xM_readWalkers, .int xM_readLight, .int xM_readWater, .ref aMreadNerve, .ref aMreadKind, .ref aMpage, .ref aMtrial, .ref aMbook, .int xM_acts, .ref aMkept, .ref aMisKept, .int xM_told, .ref aMtoldMinute, .ref aMtoldHeard, .long xM_seed, .int xM_orderBest, .int xM_orderMany, .ref aMworth, .int z73.2.1], oI aMnerve iMnerve 5 xMnerve, oI aMkind iMkind 5 xMkind, oI aMpage iMpage 13 xMpage, oI aMtrial iMtrial 13 z73.2.2]) hC [.int j2, .long j3] (cX5_sing_m (kl X) (kD X) aM aMtext aMnerve aMkind aMreadNerve aMreadKind aMpage aMtrial aMbook aMkept aMisKept aMtoldMinute aMtoldHeard aMworth iMnerve iMkind iMtrial xM_thrown xM_textSize xM_place xM_walkers xM_light xM_water xM_readWalkers xM_readLight xM_readWater xM_acts xM_told xM_seed xM_orderBest xM_orderMany xM_turned xMnerve xMkind (upd xMtrial (5 : Int32).toNatClampNeg j5) j2 j3 z73 hz73) gX5_worthOf_X5_sing rfl kyX5_sing rfl rfl rfl (q0 := 0) rfl [0, 1, 2, 4] [3] [0, 1, 3] [1, 2, 3, 0, 4] rfl rfl rfl rfl (by decide) rfl rfl rfl ⟨rfl, rfl⟩ ⟨Nat.le_of_ble_eq_true rfl, Nat.le_of_ble_eq_true rfl⟩ (Nat.le_of_ble_eq_true rfl) rfl dX5_worthOf_73 ?_
        refine g_pop hC dX5_worthOf_76 rfl ?_
        refine g_aload_n hC 0 dX5_worthOf_77 rfl rfl ?_
        refine g_get (C := RX5) (T := TX5) (N := 28) (v := .ref aMtrial) hC hinX5 0 15 rfl rfl (by decide) (List.mem_of_getElem? (i := 2) rfl) rfl dX5_worthOf_78 ?_
        refine g_iconst (v := (5 : Int32)) hC dX5_worthOf_81 ci_5 ?_
        obtain ⟨hg, hf⟩ := gd_ga hf
        refine g_iald hC 4 3 hg rfl rfl dX5_worthOf_82 ?_
        exact hQ ((z73.2.2 (5 : Int32).toNatClampNeg), z73.2.1, z73.2.2) _ _ (gd_s hf) dX5_worthOf_83
      · replace hf := gd_f hc hf
        refine g_iload_n hC 1 dX5_worthOf_25 rfl rfl ?_
        refine g_aload_n hC 0 dX5_worthOf_26 rfl rfl ?_
        refine g_get (C := RX5) (T := TX5) (N := 28) (v := .ref aMpage) hC hinX5 0 14 rfl rfl (by decide) (List.mem_of_getElem? (i := 1) rfl) rfl dX5_worthOf_27 ?_
        refine g_iload hC 5 dX5_worthOf_30 rfl ?_
        obtain ⟨hg, hf⟩ := gd_ga hf
        refine g_iald hC 3 2 hg rfl rfl dX5_worthOf_32 ?_
        obtain ⟨z33, hz33, hf⟩ := gd_b hf
        refine g_callSi (wr := [oO aM 4 [.int xM_thrown, .ref aMtext, .int xM_textSize, .int xM_place, .int xM_walkers, .int xM_light, .int xM_water, .ref aMnerve, .ref aMkind, .int xM_readWalkers, .int xM_readLight, .int xM_readWater, .ref aMreadNerve, .ref aMreadKind, .ref aMpage, .ref aMtrial, .ref aMbook, .int xM_acts, .ref aMkept, .ref aMisKept, .int xM_told, .ref aMtoldMinute, .ref aMtoldHeard, .long xM_seed, .int xM_orderBest, .int xM_orderMany, .ref aMworth, .int xM_turned], oI aMnerve iMnerve 5 xMnerve, oI aMkind iMkind 5 xMkind, oI aMpage iMpage 13 xMpage, oI aMtrial iMtrial 13 xMtrial]) (wn := [oO aM 4 [.int xM_thrown, .ref aMtext, .int xM_textSize, .int xM_place, .int xM_walkers, .int xM_light, .int xM_water, .ref aMnerve, .ref aMkind, .int xM_readWalkers, .int xM_readLight, .int xM_readWater, .ref aMreadNerve, .ref aMreadKind, .ref aMpage, .ref aMtrial, .ref aMbook, .int xM_acts, .ref aMkept, .ref aMisKept, .int xM_told, .ref aMtoldMinute, .ref aMtoldHeard, .long xM_seed, .int xM_orderBest, .int xM_orderMany, .ref aMworth, .int xM_turned], oI aMnerve iMnerve 5 xMnerve, oI aMkind iMkind 5 xMkind, oI aMpage iMpage 13 xMpage, oI aMtrial iMtrial 13 xMtrial]) hC [.int j1, .int (xMpage j6.toNatClampNeg)] (cX5_has_m (kl X) (kD X) j1 (xMpage j6.toNatClampNeg) z33 hz33) gX5_worthOf_X5_has rfl kyX5_has rfl [] [0, 1, 2, 3, 4] [] [0, 1, 2, 3, 4] rfl rfl rfl rfl (by decide) rfl rfl rfl ⟨rfl, rfl⟩ ⟨Nat.le_of_ble_eq_true rfl, Nat.le_of_ble_eq_true rfl⟩ (Nat.le_of_ble_eq_true rfl) rfl dX5_worthOf_33 ?_
        refine g_if_eq (tgt := 56) hC dX5_worthOf_36 (by decide) (fun hc => ?_) (fun hc => ?_)
        · replace hf := gd_t hc hf
          exact t56 k14 hk14 j1 j2 j3 j5 j6 xM_turned xMtrial hf
        · replace hf := gd_f hc hf
          refine g_aload_n hC 0 dX5_worthOf_39 rfl rfl ?_
          refine g_get (C := RX5) (T := TX5) (N := 28) (v := .ref aMtrial) hC hinX5 0 15 rfl rfl (by decide) (List.mem_of_getElem? (i := 2) rfl) rfl dX5_worthOf_40 ?_
          refine g_iload hC 4 dX5_worthOf_43 rfl ?_
          refine g_aload_n hC 0 dX5_worthOf_45 rfl rfl ?_
          refine g_get (C := RX5) (T := TX5) (N := 28) (v := .ref aMpage) hC hinX5 0 14 rfl rfl (by decide) (List.mem_of_getElem? (i := 1) rfl) rfl dX5_worthOf_46 ?_
          refine g_iload hC 5 dX5_worthOf_49 rfl ?_
          obtain ⟨hg, hf⟩ := gd_ga hf
          refine g_iald hC 3 2 hg rfl rfl dX5_worthOf_51 ?_
          obtain ⟨hg, hf⟩ := gd_ga hf
          refine g_iast (ws' := [oO aM 4 [.int xM_thrown, .ref aMtext, .int xM_textSize, .int xM_place, .int xM_walkers, .int xM_light, .int xM_water, .ref aMnerve, .ref aMkind, .int xM_readWalkers, .int xM_readLight, .int xM_readWater, .ref aMreadNerve, .ref aMreadKind, .ref aMpage, .ref aMtrial, .ref aMbook, .int xM_acts, .ref aMkept, .ref aMisKept, .int xM_told, .ref aMtoldMinute, .ref aMtoldHeard, .long xM_seed, .int xM_orderBest, .int xM_orderMany, .ref aMworth, .int xM_turned], oI aMnerve iMnerve 5 xMnerve, oI aMkind iMkind 5 xMkind, oI aMpage iMpage 13 xMpage, oI aMtrial iMtrial 13 (upd xMtrial j5.toNatClampNeg (xMpage j6.toNatClampNeg))]) hC 4 3 hg rfl rfl dX5_worthOf_52 rfl ?_
          refine g_iinc (v := (j5 + (1 : Int32))) (lv' := [(5, .int (j5 + (1 : Int32))), (0, .ref aM), (1, .int j1), (2, .int j2), (3, .long j3), (6, .int j6)]) hC 4 dX5_worthOf_53 rfl (ii _ ci_1) (by decide) rfl ?_
          refine g_lv (lv' := [(0, .ref aM), (1, .int j1), (2, .int j2), (3, .long j3), (5, .int (j5 + (1 : Int32))), (6, .int j6)]) [1, 2, 3, 4, 0, 5] rfl ?_
          exact t56 k14 hk14 j1 j2 j3 (j5 + (1 : Int32)) j6 xM_turned (upd xMtrial j5.toNatClampNeg (xMpage j6.toNatClampNeg)) hf
  unfold fX5_worthOf at hf
  refine g_aload_n hC 0 dX5_worthOf_0 rfl rfl ?_
  obtain ⟨z1, hz1, hf⟩ := gd_b hf
  refine g_callVv (wr := [oI aMnerve iMnerve 5 xMnerve, oI aMkind iMkind 5 xMkind]) (wn := [oO aM 4 [.int xM_thrown, .ref aMtext, .int xM_textSize, .int xM_place, .int xM_walkers, .int xM_light, .int xM_water, .ref aMnerve, .ref aMkind, .int xM_readWalkers, .int xM_readLight, .int xM_readWater, .ref aMreadNerve, .ref aMreadKind, .ref aMpage, .ref aMtrial, .ref aMbook, .int xM_acts, .ref aMkept, .ref aMisKept, .int xM_told, .ref aMtoldMinute, .ref aMtoldHeard, .long xM_seed, .int xM_orderBest, .int xM_orderMany, .ref aMworth, .int xM_turned], oI aMnerve iMnerve 5 xMnerve, oI aMkind iMkind 5 xMkind, oI aMpage iMpage 13 xMpage, oI aMtrial iMtrial 13 z1]) hC [] (cX5_begin_m (kl X) (kD X) aM aMtext aMnerve aMkind aMreadNerve aMreadKind aMpage aMtrial aMbook aMkept aMisKept aMtoldMinute aMtoldHeard aMworth iMpage iMtrial xM_thrown xM_textSize xM_place xM_walkers xM_light xM_water xM_readWalkers xM_readLight xM_readWater xM_acts xM_told xM_seed xM_orderBest xM_orderMany xM_turned xMpage xMtrial z1 hz1) gX5_worthOf_X5_begin rfl kyX5_begin rfl rfl rfl (q0 := 0) rfl [0, 3, 4] [1, 2] [2, 3] [2, 0, 1, 3, 4] rfl rfl rfl rfl (by decide) rfl rfl rfl ⟨rfl, rfl⟩ ⟨Nat.le_of_ble_eq_true rfl, Nat.le_of_ble_eq_true rfl⟩ (Nat.le_of_ble_eq_true rfl) rfl dX5_worthOf_1 ?_
  refine g_aload_n hC 0 dX5_worthOf_4 rfl rfl ?_
  obtain ⟨z5, hz5, hf⟩ := gd_b hf
  refine g_callVv (wr := [oI aMnerve iMnerve 5 xMnerve, oI aMkind iMkind 5 xMkind, oI aMpage iMpage 13 xMpage]) (wn := [oO aM 4 [.int xM_thrown, .ref aMtext, .int xM_textSize, .int xM_place, .int xM_walkers, .int xM_light, .int xM_water, .ref aMnerve, .ref aMkind, .int xM_readWalkers, .int xM_readLight, .int xM_readWater, .ref aMreadNerve, .ref aMreadKind, .ref aMpage, .ref aMtrial, .ref aMbook, .int xM_acts, .ref aMkept, .ref aMisKept, .int xM_told, .ref aMtoldMinute, .ref aMtoldHeard, .long xM_seed, .int xM_orderBest, .int xM_orderMany, .ref aMworth, .int xM_turned], oI aMnerve iMnerve 5 xMnerve, oI aMkind iMkind 5 xMkind, oI aMpage iMpage 13 xMpage, oI aMtrial iMtrial 13 z5]) hC [] (cX5_hush_m (kl X) (kD X) aM aMtext aMnerve aMkind aMreadNerve aMreadKind aMpage aMtrial aMbook aMkept aMisKept aMtoldMinute aMtoldHeard aMworth iMtrial xM_thrown xM_textSize xM_place xM_walkers xM_light xM_water xM_readWalkers xM_readLight xM_readWater xM_acts xM_told xM_seed xM_orderBest xM_orderMany xM_turned z1 z5 hz5) gX5_worthOf_X5_hush rfl kyX5_hush rfl rfl rfl (q0 := 0) rfl [0, 4] [1, 2, 3] [3] [3, 0, 1, 2, 4] rfl rfl rfl rfl (by decide) rfl rfl rfl ⟨rfl, rfl⟩ ⟨Nat.le_of_ble_eq_true rfl, Nat.le_of_ble_eq_true rfl⟩ (Nat.le_of_ble_eq_true rfl) rfl dX5_worthOf_5 ?_
  refine g_iconst (v := (0 : Int32)) hC dX5_worthOf_8 ci_0 ?_
  refine g_istore (lv' := [(5, .int (0 : Int32)), (0, .ref aM), (1, .int j1), (2, .int j2), (3, .long j3)]) hC dX5_worthOf_9 (by decide) rfl ?_
  refine g_iconst (v := (0 : Int32)) hC dX5_worthOf_11 ci_0 ?_
  refine g_istore (lv' := [(6, .int (0 : Int32)), (5, .int (0 : Int32)), (0, .ref aM), (1, .int j1), (2, .int j2), (3, .long j3)]) hC dX5_worthOf_12 (by decide) rfl ?_
  refine g_lv (lv' := [(0, .ref aM), (1, .int j1), (2, .int j2), (3, .long j3), (5, .int (0 : Int32)), (6, .int (0 : Int32))]) [2, 3, 4, 5, 1, 0] rfl ?_
  exact t14  fu j1 j2 j3 (0 : Int32) (0 : Int32) xM_turned z5 hf
theorem kyX5_many : yX5_many.cls ≠ "java/lang/invoke/MethodHandle" ∧ yX5_many.cls ≠ "java/lang/invoke/VarHandle" ∧ (parseMethodDescriptor yX5_many.desc).map (fun d => d.parameters.length) = some 1 := by decide +kernel
set_option maxHeartbeats 4000000 in
set_option maxRecDepth 100000 in
theorem cX5_many_m (l : Launch) (D : va_G)  (j0 : Int32) (z : Int32) (hf : fX5_many j0 = some z) : ∀ sz : Nat, Met l yX5_many wsX5_many ({ frames := 0, cells := 0, slots := 0, locals := 0 } : Room) (kPre D [] [] sz [.int j0]) (kQi D [] [] sz [] z) 0 0 (va_A [] sz) := by
  refine kMet_i (own := RX5) z (fun u => u) (fun u => []) rfl (by decide) rfl ⟨rfl, rfl⟩ (Nat.le_of_ble_eq_true rfl) ?_
  intro X hXl hXD hC hQ
  subst hXl
  subst hXD
  change kG X 0 [(0, .int j0)] [] []
  have t4 : ∀  (n : Nat) (j0 : Int32) (j1 : Int32) (j2 : Int32), lp (fun _ _ _ => none) (fX5_many_b4_S ) n j0 j1 j2 = some z → kG X 4 [(0, .int j0), (1, .int j1), (2, .int j2)] [] [] := by
    intro  n
    induction n with
    | zero => intro j0 j1 j2 hf; cases hf
    | succ n hk4 =>
      intro j0 j1 j2 hf
      rw [lp_s] at hf
      revert hf hk4
      generalize lp (fun _ _ _ => none) (fX5_many_b4_S ) n = k4
      intro hk4 hf
      unfold fX5_many_b4_S at hf
      refine g_iload_n hC 2 dX5_many_4 rfl rfl ?_
      refine g_iconst (v := (5 : Int32)) hC dX5_many_5 ci_5 ?_
      refine g_icmp_ge (tgt := 23) hC dX5_many_6 (by decide) (fun hc => ?_) (fun hc => ?_)
      · replace hf := gd_t hc hf
        refine g_iload_n hC 1 dX5_many_23 rfl rfl ?_
        exact hQ (j1) _ _ (gd_s hf) dX5_many_24
      · replace hf := gd_f hc hf
        refine g_iload_n hC 1 dX5_many_9 rfl rfl ?_
        refine g_iload_n hC 0 dX5_many_10 rfl rfl ?_
        refine g_iload_n hC 2 dX5_many_11 rfl rfl ?_
        refine g_ishr hC dX5_many_12 ?_
        refine g_iconst (v := (1 : Int32)) hC dX5_many_13 ci_1 ?_
        refine g_iand hC dX5_many_14 ?_
        refine g_iadd hC dX5_many_15 ?_
        refine g_istore_n (lv' := [(1, .int (j1 + ((j0 >>> (j2 &&& 31)) &&& (1 : Int32)))), (0, .int j0), (2, .int j2)]) hC dX5_many_16 rfl (by decide) rfl ?_
        refine g_iinc (v := (j2 + (1 : Int32))) (lv' := [(2, .int (j2 + (1 : Int32))), (1, .int (j1 + ((j0 >>> (j2 &&& 31)) &&& (1 : Int32)))), (0, .int j0)]) hC 2 dX5_many_17 rfl (ii _ ci_1) (by decide) rfl ?_
        refine g_goto (tgt := 4) hC dX5_many_20 (by decide) ?_
        refine g_lv (lv' := [(0, .int j0), (1, .int (j1 + ((j0 >>> (j2 &&& 31)) &&& (1 : Int32)))), (2, .int (j2 + (1 : Int32)))]) [2, 1, 0] rfl ?_
        exact hk4 j0 (j1 + ((j0 >>> (j2 &&& 31)) &&& (1 : Int32))) (j2 + (1 : Int32)) hf
  unfold fX5_many at hf
  refine g_iconst (v := (0 : Int32)) hC dX5_many_0 ci_0 ?_
  refine g_istore_n (lv' := [(1, .int (0 : Int32)), (0, .int j0)]) hC dX5_many_1 rfl (by decide) rfl ?_
  refine g_iconst (v := (0 : Int32)) hC dX5_many_2 ci_0 ?_
  refine g_istore_n (lv' := [(2, .int (0 : Int32)), (1, .int (0 : Int32)), (0, .int j0)]) hC dX5_many_3 rfl (by decide) rfl ?_
  refine g_lv (lv' := [(0, .int j0), (1, .int (0 : Int32)), (2, .int (0 : Int32))]) [2, 1, 0] rfl ?_
  exact t4  fu j0 (0 : Int32) (0 : Int32) hf
theorem kyX5_orders : yX5_orders.cls ≠ "java/lang/invoke/MethodHandle" ∧ yX5_orders.cls ≠ "java/lang/invoke/VarHandle" ∧ (parseMethodDescriptor yX5_orders.desc).map (fun d => d.parameters.length) = some 1 := by decide +kernel
set_option maxHeartbeats 4000000 in
set_option maxRecDepth 100000 in
theorem cX5_orders_m (l : Launch) (D : va_G)  (j0 : Int32) (z : Int32) (hf : fX5_orders j0 = some z) : ∀ sz : Nat, Met l yX5_orders wsX5_orders ({ frames := 0, cells := 0, slots := 0, locals := 0 } : Room) (kPre D [] [] sz [.int j0]) (kQi D [] [] sz [] z) 0 0 (va_A [] sz) := by
  refine kMet_i (own := RX5) z (fun u => u) (fun u => []) rfl (by decide) rfl ⟨rfl, rfl⟩ (Nat.le_of_ble_eq_true rfl) ?_
  intro X hXl hXD hC hQ
  subst hXl
  subst hXD
  change kG X 0 [(0, .int j0)] [] []
  have t4 : ∀  (n : Nat) (j0 : Int32) (j1 : Int32) (j2 : Int32), lp (fun _ _ _ => none) (fX5_orders_b4_S ) n j0 j1 j2 = some z → kG X 4 [(0, .int j0), (1, .int j1), (2, .int j2)] [] [] := by
    intro  n
    induction n with
    | zero => intro j0 j1 j2 hf; cases hf
    | succ n hk4 =>
      intro j0 j1 j2 hf
      rw [lp_s] at hf
      revert hf hk4
      generalize lp (fun _ _ _ => none) (fX5_orders_b4_S ) n = k4
      intro hk4 hf
      unfold fX5_orders_b4_S at hf
      refine g_iload_n hC 2 dX5_orders_4 rfl rfl ?_
      refine g_iload_n hC 0 dX5_orders_5 rfl rfl ?_
      refine g_icmp_gt (tgt := 19) hC dX5_orders_6 (by decide) (fun hc => ?_) (fun hc => ?_)
      · replace hf := gd_t hc hf
        refine g_iload_n hC 1 dX5_orders_19 rfl rfl ?_
        exact hQ (j1) _ _ (gd_s hf) dX5_orders_20
      · replace hf := gd_f hc hf
        refine g_iload_n hC 1 dX5_orders_9 rfl rfl ?_
        refine g_iload_n hC 2 dX5_orders_10 rfl rfl ?_
        refine g_imul hC dX5_orders_11 ?_
        refine g_istore_n (lv' := [(1, .int (j1 * j2)), (0, .int j0), (2, .int j2)]) hC dX5_orders_12 rfl (by decide) rfl ?_
        refine g_iinc (v := (j2 + (1 : Int32))) (lv' := [(2, .int (j2 + (1 : Int32))), (1, .int (j1 * j2)), (0, .int j0)]) hC 2 dX5_orders_13 rfl (ii _ ci_1) (by decide) rfl ?_
        refine g_goto (tgt := 4) hC dX5_orders_16 (by decide) ?_
        refine g_lv (lv' := [(0, .int j0), (1, .int (j1 * j2)), (2, .int (j2 + (1 : Int32)))]) [2, 1, 0] rfl ?_
        exact hk4 j0 (j1 * j2) (j2 + (1 : Int32)) hf
  unfold fX5_orders at hf
  refine g_iconst (v := (1 : Int32)) hC dX5_orders_0 ci_1 ?_
  refine g_istore_n (lv' := [(1, .int (1 : Int32)), (0, .int j0)]) hC dX5_orders_1 rfl (by decide) rfl ?_
  refine g_iconst (v := (2 : Int32)) hC dX5_orders_2 ci_2 ?_
  refine g_istore_n (lv' := [(2, .int (2 : Int32)), (1, .int (1 : Int32)), (0, .int j0)]) hC dX5_orders_3 rfl (by decide) rfl ?_
  refine g_lv (lv' := [(0, .int j0), (1, .int (1 : Int32)), (2, .int (2 : Int32))]) [2, 1, 0] rfl ?_
  exact t4  fu j0 (1 : Int32) (2 : Int32) hf
theorem kyX5_divisor : yX5_divisor.cls ≠ "java/lang/invoke/MethodHandle" ∧ yX5_divisor.cls ≠ "java/lang/invoke/VarHandle" ∧ (parseMethodDescriptor yX5_divisor.desc).map (fun d => d.parameters.length) = some 2 := by decide +kernel
set_option maxHeartbeats 4000000 in
set_option maxRecDepth 100000 in
theorem cX5_divisor_m (l : Launch) (D : va_G)  (j0 : Int32) (j1 : Int32) (z : Int32) (hf : fX5_divisor j0 j1 = some z) : ∀ sz : Nat, Met l yX5_divisor wsX5_divisor ({ frames := 0, cells := 0, slots := 0, locals := 0 } : Room) (kPre D [] [] sz [.int j0, .int j1]) (kQi D [] [] sz [] z) 0 0 (va_A [] sz) := by
  refine kMet_i (own := RX5) z (fun u => u) (fun u => []) rfl (by decide) rfl ⟨rfl, rfl⟩ (Nat.le_of_ble_eq_true rfl) ?_
  intro X hXl hXD hC hQ
  subst hXl
  subst hXD
  change kG X 0 [(0, .int j0), (1, .int j1)] [] []
  have t13 : ∀  (n : Nat) (j2 : Int32) (j3 : Int32), lp (fun _ _ => none) (fX5_divisor_b13_S ) n j2 j3 = some z → kG X 13 [(2, .int j2), (3, .int j3)] [] [] := by
    intro  n
    induction n with
    | zero => intro j2 j3 hf; cases hf
    | succ n hk13 =>
      intro j2 j3 hf
      rw [lp_s] at hf
      revert hf hk13
      generalize lp (fun _ _ => none) (fX5_divisor_b13_S ) n = k13
      intro hk13 hf
      unfold fX5_divisor_b13_S at hf
      refine g_iload_n hC 1 dX5_divisor_13 rfl rfl ?_
      refine g_if_eq (tgt := 30) hC dX5_divisor_14 (by decide) (fun hc => ?_) (fun hc => ?_)
      · replace hf := gd_t hc hf
        refine g_iload_n hC 0 dX5_divisor_30 rfl rfl ?_
        exact hQ (j2) _ _ (gd_s hf) dX5_divisor_31
      · replace hf := gd_f hc hf
        refine g_iload_n hC 0 dX5_divisor_17 rfl rfl ?_
        refine g_iload_n hC 1 dX5_divisor_18 rfl rfl ?_
        obtain ⟨hg, hf⟩ := gd_ga hf
        refine g_irem hC dX5_divisor_19 hg ?_
        refine g_istore (lv' := [(4, .int (j2 - j2 / j3 * j3)), (2, .int j2), (3, .int j3)]) hC dX5_divisor_20 (by decide) rfl ?_
        refine g_iload_n hC 2 dX5_divisor_22 rfl rfl ?_
        refine g_istore_n (lv' := [(2, .int j3), (4, .int (j2 - j2 / j3 * j3)), (3, .int j3)]) hC dX5_divisor_23 rfl (by decide) rfl ?_
        refine g_iload hC 1 dX5_divisor_24 rfl ?_
        refine g_istore_n (lv' := [(3, .int (j2 - j2 / j3 * j3)), (2, .int j3), (4, .int (j2 - j2 / j3 * j3))]) hC dX5_divisor_26 rfl (by decide) rfl ?_
        refine g_goto (tgt := 13) hC dX5_divisor_27 (by decide) ?_
        refine g_lv (lv' := [(2, .int j3), (3, .int (j2 - j2 / j3 * j3))]) [1, 0] rfl ?_
        exact hk13 j3 (j2 - j2 / j3 * j3) hf
  have t10 : ∀  (j1 : Int32) (y0 : Int32), fX5_divisor_b10  j1 y0 = some z → kG X 10 [(1, .int j1)] [.int y0] [] := by
    intro j1 y0 hf
    unfold fX5_divisor_b10 at hf
    refine g_istore_n (lv' := [(2, .int y0), (1, .int j1)]) hC dX5_divisor_10 rfl (by decide) rfl ?_
    refine g_iload_n hC 1 dX5_divisor_11 rfl rfl ?_
    refine g_istore_n (lv' := [(3, .int j1), (2, .int y0), (1, .int j1)]) hC dX5_divisor_12 rfl (by decide) rfl ?_
    refine g_lv (lv' := [(2, .int y0), (3, .int j1)]) [1, 0] rfl ?_
    exact t13  fu y0 j1 hf
  unfold fX5_divisor at hf
  refine g_iload_n hC 0 dX5_divisor_0 rfl rfl ?_
  refine g_if_ge (tgt := 9) hC dX5_divisor_1 (by decide) (fun hc => ?_) (fun hc => ?_)
  · replace hf := gd_t hc hf
    refine g_iload_n hC 0 dX5_divisor_9 rfl rfl ?_
    refine g_lv (lv' := [(1, .int j1)]) [1] rfl ?_
    exact t10  j1 j0 hf
  · replace hf := gd_f hc hf
    refine g_iload_n hC 0 dX5_divisor_4 rfl rfl ?_
    refine g_ineg hC dX5_divisor_5 ?_
    refine g_goto (tgt := 10) hC dX5_divisor_6 (by decide) ?_
    refine g_lv (lv' := [(1, .int j1)]) [1] rfl ?_
    exact t10  j1 (-j0) hf
theorem kyX5_fraction : yX5_fraction.cls ≠ "java/lang/invoke/MethodHandle" ∧ yX5_fraction.cls ≠ "java/lang/invoke/VarHandle" ∧ (parseMethodDescriptor yX5_fraction.desc).map (fun d => d.parameters.length) = some 3 := by decide +kernel
set_option maxHeartbeats 4000000 in
set_option maxRecDepth 100000 in
theorem cX5_fraction_m (l : Launch) (D : va_G)  (j0 : Int32) (j1 : Int32) (j2 : Int32) (z : Int32) (hf : fX5_fraction j0 j1 j2 = some z) : ∀ sz : Nat, Met l yX5_fraction wsX5_fraction ({ frames := 1, cells := 0, slots := 0, locals := 24 } : Room) (kPre D [] [] sz [.int j0, .int j1, .int j2]) (kQi D [] [] sz [] z) 0 0 (va_A [] sz) := by
  refine kMet_i (own := RX5) z (fun u => u) (fun u => []) rfl (by decide) rfl ⟨rfl, rfl⟩ (Nat.le_of_ble_eq_true rfl) ?_
  intro X hXl hXD hC hQ
  subst hXl
  subst hXD
  change kG X 0 [(0, .int j0), (1, .int j1), (2, .int j2)] [] []
  unfold fX5_fraction at hf
  refine g_iload_n hC 0 dX5_fraction_0 rfl rfl ?_
  refine g_iload_n hC 1 dX5_fraction_1 rfl rfl ?_
  obtain ⟨z2, hz2, hf⟩ := gd_b hf
  refine g_callSi (wr := []) (wn := []) hC [.int j0, .int j1] (cX5_divisor_m (kl X) (kD X) j0 j1 z2 hz2) gX5_fraction_X5_divisor rfl kyX5_divisor rfl [] [] [] [] rfl rfl rfl rfl (by decide) rfl rfl rfl ⟨rfl, rfl⟩ ⟨Nat.le_of_ble_eq_true rfl, Nat.le_of_ble_eq_true rfl⟩ (Nat.le_of_ble_eq_true rfl) rfl dX5_fraction_2 ?_
  refine g_istore_n (lv' := [(3, .int z2), (0, .int j0), (1, .int j1), (2, .int j2)]) hC dX5_fraction_5 rfl (by decide) rfl ?_
  refine g_iload_n hC 3 dX5_fraction_6 rfl rfl ?_
  refine g_if_eq (tgt := 16) hC dX5_fraction_7 (by decide) (fun hc => ?_) (fun hc => ?_)
  · replace hf := gd_t hc hf
    refine g_iload_n hC 2 dX5_fraction_16 rfl rfl ?_
    refine g_iload_n hC 0 dX5_fraction_17 rfl rfl ?_
    obtain ⟨hg, hf⟩ := gd_ga hf
    refine g_idiv hC dX5_fraction_18 hg ?_
    exact hQ ((j1 / z2)) _ _ (gd_s hf) dX5_fraction_19
  · replace hf := gd_f hc hf
    refine g_iload_n hC 1 dX5_fraction_10 rfl rfl ?_
    refine g_iload_n hC 0 dX5_fraction_11 rfl rfl ?_
    obtain ⟨hg, hf⟩ := gd_ga hf
    refine g_idiv hC dX5_fraction_12 hg ?_
    refine g_goto (tgt := 19) hC dX5_fraction_13 (by decide) ?_
    exact hQ ((j0 / z2)) _ _ (gd_s hf) dX5_fraction_19
theorem kyX5_share : yX5_share.cls = RX5 ∧ yX5_share.cls ≠ "java/lang/invoke/MethodHandle" ∧ yX5_share.cls ≠ "java/lang/invoke/VarHandle" ∧ (parseMethodDescriptor yX5_share.desc).map (fun d => d.parameters.length) = some 4 := by decide +kernel
set_option maxHeartbeats 4000000 in
set_option maxRecDepth 100000 in
theorem cX5_share_m (l : Launch) (D : va_G) (aM aMtext aMnerve aMkind aMreadNerve aMreadKind aMpage aMtrial aMbook aMkept aMisKept aMtoldMinute aMtoldHeard aMworth : Nat) (iMnerve iMkind iMpage iMtrial iMworth : ClassId) (xM_thrown : Int32) (xM_textSize : Int32) (xM_place : Int32) (xM_walkers : Int32) (xM_light : Int32) (xM_water : Int32) (xM_readWalkers : Int32) (xM_readLight : Int32) (xM_readWater : Int32) (xM_acts : Int32) (xM_told : Int32) (xM_seed : Int64) (xM_orderBest : Int32) (xM_orderMany : Int32) (xM_turned : Int32) (xMnerve : Nat → Int32) (xMkind : Nat → Int32) (xMpage : Nat → Int32) (xMtrial : Nat → Int32) (xMworth : Nat → Int32) (j1 : Int32) (j2 : Int32) (j3 : Int64) (j5 : Int32) (z : Int32 × Int32 × Int32 × (Nat → Int32) × (Nat → Int32)) (hf : fX5_share j1 j2 j3 j5 xM_thrown xM_walkers xM_light xM_water xM_turned xMnerve xMkind xMpage xMtrial xMworth = some z) : ∀ sz : Nat, Met l yX5_share wsX5_share ({ frames := 5, cells := 0, slots := 0, locals := 123 } : Room) (kPre D [(iMnerve, .int), (iMkind, .int), (iMpage, .int), (iMtrial, .int), (iMworth, .int)] [oO aM 4 [.int xM_thrown, .ref aMtext, .int xM_textSize, .int xM_place, .int xM_walkers, .int xM_light, .int xM_water, .ref aMnerve, .ref aMkind, .int xM_readWalkers, .int xM_readLight, .int xM_readWater, .ref aMreadNerve, .ref aMreadKind, .ref aMpage, .ref aMtrial, .ref aMbook, .int xM_acts, .ref aMkept, .ref aMisKept, .int xM_told, .ref aMtoldMinute, .ref aMtoldHeard, .long xM_seed, .int xM_orderBest, .int xM_orderMany, .ref aMworth, .int xM_turned], oI aMnerve iMnerve 5 xMnerve, oI aMkind iMkind 5 xMkind, oI aMpage iMpage 13 xMpage, oI aMtrial iMtrial 13 xMtrial, oI aMworth iMworth 32 xMworth] sz [.ref aM, .int j1, .int j2, .long j3, .int j5]) (kQi D [(iMnerve, .int), (iMkind, .int), (iMpage, .int), (iMtrial, .int), (iMworth, .int)] [oO aM 4 [.int xM_thrown, .ref aMtext, .int xM_textSize, .int xM_place, .int xM_walkers, .int xM_light, .int xM_water, .ref aMnerve, .ref aMkind, .int xM_readWalkers, .int xM_readLight, .int xM_readWater, .ref aMreadNerve, .ref aMreadKind, .ref aMpage, .ref aMtrial, .ref aMbook, .int xM_acts, .ref aMkept, .ref aMisKept, .int xM_told, .ref aMtoldMinute, .ref aMtoldHeard, .long xM_seed, .int xM_orderBest, .int xM_orderMany, .ref aMworth, .int xM_turned], oI aMnerve iMnerve 5 xMnerve, oI aMkind iMkind 5 xMkind, oI aMpage iMpage 13 xMpage, oI aMtrial iMtrial 13 xMtrial, oI aMworth iMworth 32 xMworth] sz [oO aM 4 [.int z.2.1, .ref aMtext, .int xM_textSize, .int xM_place, .int xM_walkers, .int xM_light, .int xM_water, .ref aMnerve, .ref aMkind, .int xM_readWalkers, .int xM_readLight, .int xM_readWater, .ref aMreadNerve, .ref aMreadKind, .ref aMpage, .ref aMtrial, .ref aMbook, .int xM_acts, .ref aMkept, .ref aMisKept, .int xM_told, .ref aMtoldMinute, .ref aMtoldHeard, .long xM_seed, .int xM_orderBest, .int xM_orderMany, .ref aMworth, .int z.2.2.1], oI aMnerve iMnerve 5 xMnerve, oI aMkind iMkind 5 xMkind, oI aMpage iMpage 13 xMpage, oI aMtrial iMtrial 13 z.2.2.2.1, oI aMworth iMworth 32 z.2.2.2.2] z.1) 0 0 (va_A [oO aM 4 [.int xM_thrown, .ref aMtext, .int xM_textSize, .int xM_place, .int xM_walkers, .int xM_light, .int xM_water, .ref aMnerve, .ref aMkind, .int xM_readWalkers, .int xM_readLight, .int xM_readWater, .ref aMreadNerve, .ref aMreadKind, .ref aMpage, .ref aMtrial, .ref aMbook, .int xM_acts, .ref aMkept, .ref aMisKept, .int xM_told, .ref aMtoldMinute, .ref aMtoldHeard, .long xM_seed, .int xM_orderBest, .int xM_orderMany, .ref aMworth, .int xM_turned], oI aMnerve iMnerve 5 xMnerve, oI aMkind iMkind 5 xMkind, oI aMpage iMpage 13 xMpage, oI aMtrial iMtrial 13 xMtrial, oI aMworth iMworth 32 xMworth] sz) := by
  refine kMet_i (own := RX5) z (fun u => u.1) (fun u => [oO aM 4 [.int u.2.1, .ref aMtext, .int xM_textSize, .int xM_place, .int xM_walkers, .int xM_light, .int xM_water, .ref aMnerve, .ref aMkind, .int xM_readWalkers, .int xM_readLight, .int xM_readWater, .ref aMreadNerve, .ref aMreadKind, .ref aMpage, .ref aMtrial, .ref aMbook, .int xM_acts, .ref aMkept, .ref aMisKept, .int xM_told, .ref aMtoldMinute, .ref aMtoldHeard, .long xM_seed, .int xM_orderBest, .int xM_orderMany, .ref aMworth, .int u.2.2.1], oI aMnerve iMnerve 5 xMnerve, oI aMkind iMkind 5 xMkind, oI aMpage iMpage 13 xMpage, oI aMtrial iMtrial 13 u.2.2.2.1, oI aMworth iMworth 32 u.2.2.2.2]) rfl (by decide) rfl ⟨rfl, rfl⟩ (Nat.le_of_ble_eq_true rfl) ?_
  intro X hXl hXD hC hQ
  subst hXl
  subst hXD
  change kG X 0 [(0, .ref aM), (1, .int j1), (2, .int j2), (3, .long j3), (5, .int j5)] [] [oO aM 4 [.int xM_thrown, .ref aMtext, .int xM_textSize, .int xM_place, .int xM_walkers, .int xM_light, .int xM_water, .ref aMnerve, .ref aMkind, .int xM_readWalkers, .int xM_readLight, .int xM_readWater, .ref aMreadNerve, .ref aMreadKind, .ref aMpage, .ref aMtrial, .ref aMbook, .int xM_acts, .ref aMkept, .ref aMisKept, .int xM_told, .ref aMtoldMinute, .ref aMtoldHeard, .long xM_seed, .int xM_orderBest, .int xM_orderMany, .ref aMworth, .int xM_turned], oI aMnerve iMnerve 5 xMnerve, oI aMkind iMkind 5 xMkind, oI aMpage iMpage 13 xMpage, oI aMtrial iMtrial 13 xMtrial, oI aMworth iMworth 32 xMworth]
  have hinX5 : ∀ w ∈ wsX50, w ∈ wsX5_share := fun _ h => List.mem_cons_of_mem _ (List.mem_append_right _ h)
  have t183 : ∀  (j5 : Int32) (j7 : Int32) (j8 : Int32) (xM_thrown : Int32) (xM_turned : Int32) (xMtrial : Nat → Int32) (xMworth : Nat → Int32), fX5_share_b183 xM_walkers xM_light xM_water xMnerve xMkind xMpage  j5 j7 j8 xM_thrown xM_turned xMtrial xMworth = some z → kG X 183 [(5, .int j5), (7, .int j7), (8, .int j8)] [] [oO aM 4 [.int xM_thrown, .ref aMtext, .int xM_textSize, .int xM_place, .int xM_walkers, .int xM_light, .int xM_water, .ref aMnerve, .ref aMkind, .int xM_readWalkers, .int xM_readLight, .int xM_readWater, .ref aMreadNerve, .ref aMreadKind, .ref aMpage, .ref aMtrial, .ref aMbook, .int xM_acts, .ref aMkept, .ref aMisKept, .int xM_told, .ref aMtoldMinute, .ref aMtoldHeard, .long xM_seed, .int xM_orderBest, .int xM_orderMany, .ref aMworth, .int xM_turned], oI aMnerve iMnerve 5 xMnerve, oI aMkind iMkind 5 xMkind, oI aMpage iMpage 13 xMpage, oI aMtrial iMtrial 13 xMtrial, oI aMworth iMworth 32 xMworth] := by
    intro j5 j7 j8 xM_thrown xM_turned xMtrial xMworth hf
    unfold fX5_share_b183 at hf
    refine g_iload hC 2 dX5_share_183 rfl ?_
    refine g_iload hC 1 dX5_share_185 rfl ?_
    obtain ⟨z187, hz187, hf⟩ := gd_b hf
    refine g_callSi (wr := [oO aM 4 [.int xM_thrown, .ref aMtext, .int xM_textSize, .int xM_place, .int xM_walkers, .int xM_light, .int xM_water, .ref aMnerve, .ref aMkind, .int xM_readWalkers, .int xM_readLight, .int xM_readWater, .ref aMreadNerve, .ref aMreadKind, .ref aMpage, .ref aMtrial, .ref aMbook, .int xM_acts, .ref aMkept, .ref aMisKept, .int xM_told, .ref aMtoldMinute, .ref aMtoldHeard, .long xM_seed, .int xM_orderBest, .int xM_orderMany, .ref aMworth, .int xM_turned], oI aMnerve iMnerve 5 xMnerve, oI aMkind iMkind 5 xMkind, oI aMpage iMpage 13 xMpage, oI aMtrial iMtrial 13 xMtrial, oI aMworth iMworth 32 xMworth]) (wn := [oO aM 4 [.int xM_thrown, .ref aMtext, .int xM_textSize, .int xM_place, .int xM_walkers, .int xM_light, .int xM_water, .ref aMnerve, .ref aMkind, .int xM_readWalkers, .int xM_readLight, .int xM_readWater, .ref aMreadNerve, .ref aMreadKind, .ref aMpage, .ref aMtrial, .ref aMbook, .int xM_acts, .ref aMkept, .ref aMisKept, .int xM_told, .ref aMtoldMinute, .ref aMtoldHeard, .long xM_seed, .int xM_orderBest, .int xM_orderMany, .ref aMworth, .int xM_turned], oI aMnerve iMnerve 5 xMnerve, oI aMkind iMkind 5 xMkind, oI aMpage iMpage 13 xMpage, oI aMtrial iMtrial 13 xMtrial, oI aMworth iMworth 32 xMworth]) hC [.int j7] (cX5_orders_m (kl X) (kD X) j7 z187 hz187) gX5_share_X5_orders rfl kyX5_orders rfl [] [0, 1, 2, 3, 4, 5] [] [0, 1, 2, 3, 4, 5] rfl rfl rfl rfl (by decide) rfl rfl rfl ⟨rfl, rfl⟩ ⟨Nat.le_of_ble_eq_true rfl, Nat.le_of_ble_eq_true rfl⟩ (Nat.le_of_ble_eq_true rfl) rfl dX5_share_187 ?_
    refine g_iload hC 0 dX5_share_190 rfl ?_
    obtain ⟨z192, hz192, hf⟩ := gd_b hf
    refine g_callSi (wr := [oO aM 4 [.int xM_thrown, .ref aMtext, .int xM_textSize, .int xM_place, .int xM_walkers, .int xM_light, .int xM_water, .ref aMnerve, .ref aMkind, .int xM_readWalkers, .int xM_readLight, .int xM_readWater, .ref aMreadNerve, .ref aMreadKind, .ref aMpage, .ref aMtrial, .ref aMbook, .int xM_acts, .ref aMkept, .ref aMisKept, .int xM_told, .ref aMtoldMinute, .ref aMtoldHeard, .long xM_seed, .int xM_orderBest, .int xM_orderMany, .ref aMworth, .int xM_turned], oI aMnerve iMnerve 5 xMnerve, oI aMkind iMkind 5 xMkind, oI aMpage iMpage 13 xMpage, oI aMtrial iMtrial 13 xMtrial, oI aMworth iMworth 32 xMworth]) (wn := [oO aM 4 [.int xM_thrown, .ref aMtext, .int xM_textSize, .int xM_place, .int xM_walkers, .int xM_light, .int xM_water, .ref aMnerve, .ref aMkind, .int xM_readWalkers, .int xM_readLight, .int xM_readWater, .ref aMreadNerve, .ref aMreadKind, .ref aMpage, .ref aMtrial, .ref aMbook, .int xM_acts, .ref aMkept, .ref aMisKept, .int xM_told, .ref aMtoldMinute, .ref aMtoldHeard, .long xM_seed, .int xM_orderBest, .int xM_orderMany, .ref aMworth, .int xM_turned], oI aMnerve iMnerve 5 xMnerve, oI aMkind iMkind 5 xMkind, oI aMpage iMpage 13 xMpage, oI aMtrial iMtrial 13 xMtrial, oI aMworth iMworth 32 xMworth]) hC [.int j8, .int z187, .int j5] (cX5_fraction_m (kl X) (kD X) j8 z187 j5 z192 hz192) gX5_share_X5_fraction rfl kyX5_fraction rfl [] [0, 1, 2, 3, 4, 5] [] [0, 1, 2, 3, 4, 5] rfl rfl rfl rfl (by decide) rfl rfl rfl ⟨rfl, rfl⟩ ⟨Nat.le_of_ble_eq_true rfl, Nat.le_of_ble_eq_true rfl⟩ (Nat.le_of_ble_eq_true rfl) rfl dX5_share_192 ?_
    exact hQ (z192, xM_thrown, xM_turned, xMtrial, xMworth) _ _ (gd_s hf) dX5_share_195
  have t177 : ∀ (k94 : Int32 → Int32 → Int32 → Int32 → Int32 → Int32 → Int32 → Int32 → (Nat → Int32) → (Nat → Int32) → Option (Int32 × Int32 × Int32 × (Nat → Int32) × (Nat → Int32))) (hk94 : ∀ (j1 : Int32) (j5 : Int32) (j6 : Int32) (j7 : Int32) (j8 : Int32) (j9 : Int32) (xM_thrown : Int32) (xM_turned : Int32) (xMtrial : Nat → Int32) (xMworth : Nat → Int32), k94 j1 j5 j6 j7 j8 j9 xM_thrown xM_turned xMtrial xMworth = some z → kG X 94 [(0, .ref aM), (1, .int j1), (5, .int j5), (6, .int j6), (7, .int j7), (8, .int j8), (9, .int j9)] [] [oO aM 4 [.int xM_thrown, .ref aMtext, .int xM_textSize, .int xM_place, .int xM_walkers, .int xM_light, .int xM_water, .ref aMnerve, .ref aMkind, .int xM_readWalkers, .int xM_readLight, .int xM_readWater, .ref aMreadNerve, .ref aMreadKind, .ref aMpage, .ref aMtrial, .ref aMbook, .int xM_acts, .ref aMkept, .ref aMisKept, .int xM_told, .ref aMtoldMinute, .ref aMtoldHeard, .long xM_seed, .int xM_orderBest, .int xM_orderMany, .ref aMworth, .int xM_turned], oI aMnerve iMnerve 5 xMnerve, oI aMkind iMkind 5 xMkind, oI aMpage iMpage 13 xMpage, oI aMtrial iMtrial 13 xMtrial, oI aMworth iMworth 32 xMworth]) (j1 : Int32) (j5 : Int32) (j6 : Int32) (j7 : Int32) (j8 : Int32) (j9 : Int32) (xM_thrown : Int32) (xM_turned : Int32) (xMtrial : Nat → Int32) (xMworth : Nat → Int32), fX5_share_b177 xM_walkers xM_light xM_water xMnerve xMkind xMpage k94 j1 j5 j6 j7 j8 j9 xM_thrown xM_turned xMtrial xMworth = some z → kG X 177 [(0, .ref aM), (1, .int j1), (5, .int j5), (6, .int j6), (7, .int j7), (8, .int j8), (9, .int j9)] [] [oO aM 4 [.int xM_thrown, .ref aMtext, .int xM_textSize, .int xM_place, .int xM_walkers, .int xM_light, .int xM_water, .ref aMnerve, .ref aMkind, .int xM_readWalkers, .int xM_readLight, .int xM_readWater, .ref aMreadNerve, .ref aMreadKind, .ref aMpage, .ref aMtrial, .ref aMbook, .int xM_acts, .ref aMkept, .ref aMisKept, .int xM_told, .ref aMtoldMinute, .ref aMtoldHeard, .long xM_seed, .int xM_orderBest, .int xM_orderMany, .ref aMworth, .int xM_turned], oI aMnerve iMnerve 5 xMnerve, oI aMkind iMkind 5 xMkind, oI aMpage iMpage 13 xMpage, oI aMtrial iMtrial 13 xMtrial, oI aMworth iMworth 32 xMworth] := by
    intro k94 hk94 j1 j5 j6 j7 j8 j9 xM_thrown xM_turned xMtrial xMworth hf
    unfold fX5_share_b177 at hf
    refine g_iinc (v := (j9 + (1 : Int32))) (lv' := [(9, .int (j9 + (1 : Int32))), (0, .ref aM), (1, .int j1), (5, .int j5), (6, .int j6), (7, .int j7), (8, .int j8)]) hC 6 dX5_share_177 rfl (ii _ ci_1) (by decide) rfl ?_
    refine g_goto (tgt := 94) hC dX5_share_180 (by decide) ?_
    refine g_lv (lv' := [(0, .ref aM), (1, .int j1), (5, .int j5), (6, .int j6), (7, .int j7), (8, .int j8), (9, .int (j9 + (1 : Int32)))]) [1, 2, 3, 4, 5, 6, 0] rfl ?_
    exact hk94 j1 j5 j6 j7 j8 (j9 + (1 : Int32)) xM_thrown xM_turned xMtrial xMworth hf
  have t94 : ∀  (n : Nat) (j1 : Int32) (j5 : Int32) (j6 : Int32) (j7 : Int32) (j8 : Int32) (j9 : Int32) (xM_thrown : Int32) (xM_turned : Int32) (xMtrial : Nat → Int32) (xMworth : Nat → Int32), lp (fun _ _ _ _ _ _ _ _ _ _ => none) (fX5_share_b94_S xM_walkers xM_light xM_water xMnerve xMkind xMpage ) n j1 j5 j6 j7 j8 j9 xM_thrown xM_turned xMtrial xMworth = some z → kG X 94 [(0, .ref aM), (1, .int j1), (5, .int j5), (6, .int j6), (7, .int j7), (8, .int j8), (9, .int j9)] [] [oO aM 4 [.int xM_thrown, .ref aMtext, .int xM_textSize, .int xM_place, .int xM_walkers, .int xM_light, .int xM_water, .ref aMnerve, .ref aMkind, .int xM_readWalkers, .int xM_readLight, .int xM_readWater, .ref aMreadNerve, .ref aMreadKind, .ref aMpage, .ref aMtrial, .ref aMbook, .int xM_acts, .ref aMkept, .ref aMisKept, .int xM_told, .ref aMtoldMinute, .ref aMtoldHeard, .long xM_seed, .int xM_orderBest, .int xM_orderMany, .ref aMworth, .int xM_turned], oI aMnerve iMnerve 5 xMnerve, oI aMkind iMkind 5 xMkind, oI aMpage iMpage 13 xMpage, oI aMtrial iMtrial 13 xMtrial, oI aMworth iMworth 32 xMworth] := by
    intro  n
    induction n with
    | zero => intro j1 j5 j6 j7 j8 j9 xM_thrown xM_turned xMtrial xMworth hf; cases hf
    | succ n hk94 =>
      intro j1 j5 j6 j7 j8 j9 xM_thrown xM_turned xMtrial xMworth hf
      rw [lp_s] at hf
      revert hf hk94
      generalize lp (fun _ _ _ _ _ _ _ _ _ _ => none) (fX5_share_b94_S xM_walkers xM_light xM_water xMnerve xMkind xMpage ) n = k94
      intro hk94 hf
      unfold fX5_share_b94_S at hf
      refine g_iload hC 6 dX5_share_94 rfl ?_
      refine g_bipush (v := (32 : Int32)) hC dX5_share_96 cb_32 ?_
      refine g_icmp_ge (tgt := 183) hC dX5_share_98 (by decide) (fun hc => ?_) (fun hc => ?_)
      · replace hf := gd_t hc hf
        refine g_lv (lv' := [(5, .int j5), (7, .int j7), (8, .int j8)]) [2, 4, 5] rfl ?_
        exact t183  j5 j7 j8 xM_thrown xM_turned xMtrial xMworth hf
      · replace hf := gd_f hc hf
        refine g_iload hC 3 dX5_share_101 rfl ?_
        refine g_iload_n hC 1 dX5_share_103 rfl rfl ?_
        obtain ⟨z104, hz104, hf⟩ := gd_b hf
        refine g_callSi (wr := [oO aM 4 [.int xM_thrown, .ref aMtext, .int xM_textSize, .int xM_place, .int xM_walkers, .int xM_light, .int xM_water, .ref aMnerve, .ref aMkind, .int xM_readWalkers, .int xM_readLight, .int xM_readWater, .ref aMreadNerve, .ref aMreadKind, .ref aMpage, .ref aMtrial, .ref aMbook, .int xM_acts, .ref aMkept, .ref aMisKept, .int xM_told, .ref aMtoldMinute, .ref aMtoldHeard, .long xM_seed, .int xM_orderBest, .int xM_orderMany, .ref aMworth, .int xM_turned], oI aMnerve iMnerve 5 xMnerve, oI aMkind iMkind 5 xMkind, oI aMpage iMpage 13 xMpage, oI aMtrial iMtrial 13 xMtrial, oI aMworth iMworth 32 xMworth]) (wn := [oO aM 4 [.int xM_thrown, .ref aMtext, .int xM_textSize, .int xM_place, .int xM_walkers, .int xM_light, .int xM_water, .ref aMnerve, .ref aMkind, .int xM_readWalkers, .int xM_readLight, .int xM_readWater, .ref aMreadNerve, .ref aMreadKind, .ref aMpage, .ref aMtrial, .ref aMbook, .int xM_acts, .ref aMkept, .ref aMisKept, .int xM_told, .ref aMtoldMinute, .ref aMtoldHeard, .long xM_seed, .int xM_orderBest, .int xM_orderMany, .ref aMworth, .int xM_turned], oI aMnerve iMnerve 5 xMnerve, oI aMkind iMkind 5 xMkind, oI aMpage iMpage 13 xMpage, oI aMtrial iMtrial 13 xMtrial, oI aMworth iMworth 32 xMworth]) hC [.int j6, .int j1] (cX5_has_m (kl X) (kD X) j6 j1 z104 hz104) gX5_share_X5_has rfl kyX5_has rfl [] [0, 1, 2, 3, 4, 5] [] [0, 1, 2, 3, 4, 5] rfl rfl rfl rfl (by decide) rfl rfl rfl ⟨rfl, rfl⟩ ⟨Nat.le_of_ble_eq_true rfl, Nat.le_of_ble_eq_true rfl⟩ (Nat.le_of_ble_eq_true rfl) rfl dX5_share_104 ?_
        refine g_if_eq (tgt := 183) hC dX5_share_107 (by decide) (fun hc => ?_) (fun hc => ?_)
        · replace hf := gd_t hc hf
          refine g_lv (lv' := [(5, .int j5), (7, .int j7), (8, .int j8)]) [2, 4, 5] rfl ?_
          exact t183  j5 j7 j8 xM_thrown xM_turned xMtrial xMworth hf
        · replace hf := gd_f hc hf
          refine g_iload hC 6 dX5_share_110 rfl ?_
          refine g_iload hC 3 dX5_share_112 rfl ?_
          refine g_iconst (v := (-1 : Int32)) hC dX5_share_114 ci_m1 ?_
          refine g_ixor hC dX5_share_115 ?_
          refine g_iand hC dX5_share_116 ?_
          refine g_if_ne (tgt := 177) hC dX5_share_117 (by decide) (fun hc => ?_) (fun hc => ?_)
          · replace hf := gd_f hc hf
            exact t177 k94 hk94 j1 j5 j6 j7 j8 j9 xM_thrown xM_turned xMtrial xMworth hf
          · replace hf := gd_t hc hf
            refine g_iload hC 6 dX5_share_120 rfl ?_
            refine g_iload_n hC 1 dX5_share_122 rfl rfl ?_
            obtain ⟨z123, hz123, hf⟩ := gd_b hf
            refine g_callSi (wr := [oO aM 4 [.int xM_thrown, .ref aMtext, .int xM_textSize, .int xM_place, .int xM_walkers, .int xM_light, .int xM_water, .ref aMnerve, .ref aMkind, .int xM_readWalkers, .int xM_readLight, .int xM_readWater, .ref aMreadNerve, .ref aMreadKind, .ref aMpage, .ref aMtrial, .ref aMbook, .int xM_acts, .ref aMkept, .ref aMisKept, .int xM_told, .ref aMtoldMinute, .ref aMtoldHeard, .long xM_seed, .int xM_orderBest, .int xM_orderMany, .ref aMworth, .int xM_turned], oI aMnerve iMnerve 5 xMnerve, oI aMkind iMkind 5 xMkind, oI aMpage iMpage 13 xMpage, oI aMtrial iMtrial 13 xMtrial, oI aMworth iMworth 32 xMworth]) (wn := [oO aM 4 [.int xM_thrown, .ref aMtext, .int xM_textSize, .int xM_place, .int xM_walkers, .int xM_light, .int xM_water, .ref aMnerve, .ref aMkind, .int xM_readWalkers, .int xM_readLight, .int xM_readWater, .ref aMreadNerve, .ref aMreadKind, .ref aMpage, .ref aMtrial, .ref aMbook, .int xM_acts, .ref aMkept, .ref aMisKept, .int xM_told, .ref aMtoldMinute, .ref aMtoldHeard, .long xM_seed, .int xM_orderBest, .int xM_orderMany, .ref aMworth, .int xM_turned], oI aMnerve iMnerve 5 xMnerve, oI aMkind iMkind 5 xMkind, oI aMpage iMpage 13 xMpage, oI aMtrial iMtrial 13 xMtrial, oI aMworth iMworth 32 xMworth]) hC [.int j9, .int j1] (cX5_has_m (kl X) (kD X) j9 j1 z123 hz123) gX5_share_X5_has rfl kyX5_has rfl [] [0, 1, 2, 3, 4, 5] [] [0, 1, 2, 3, 4, 5] rfl rfl rfl rfl (by decide) rfl rfl rfl ⟨rfl, rfl⟩ ⟨Nat.le_of_ble_eq_true rfl, Nat.le_of_ble_eq_true rfl⟩ (Nat.le_of_ble_eq_true rfl) rfl dX5_share_123 ?_
            refine g_if_ne (tgt := 177) hC dX5_share_126 (by decide) (fun hc => ?_) (fun hc => ?_)
            · replace hf := gd_f hc hf
              exact t177 k94 hk94 j1 j5 j6 j7 j8 j9 xM_thrown xM_turned xMtrial xMworth hf
            · replace hf := gd_t hc hf
              refine g_iload hC 6 dX5_share_129 rfl ?_
              obtain ⟨z131, hz131, hf⟩ := gd_b hf
              refine g_callSi (wr := [oO aM 4 [.int xM_thrown, .ref aMtext, .int xM_textSize, .int xM_place, .int xM_walkers, .int xM_light, .int xM_water, .ref aMnerve, .ref aMkind, .int xM_readWalkers, .int xM_readLight, .int xM_readWater, .ref aMreadNerve, .ref aMreadKind, .ref aMpage, .ref aMtrial, .ref aMbook, .int xM_acts, .ref aMkept, .ref aMisKept, .int xM_told, .ref aMtoldMinute, .ref aMtoldHeard, .long xM_seed, .int xM_orderBest, .int xM_orderMany, .ref aMworth, .int xM_turned], oI aMnerve iMnerve 5 xMnerve, oI aMkind iMkind 5 xMkind, oI aMpage iMpage 13 xMpage, oI aMtrial iMtrial 13 xMtrial, oI aMworth iMworth 32 xMworth]) (wn := [oO aM 4 [.int xM_thrown, .ref aMtext, .int xM_textSize, .int xM_place, .int xM_walkers, .int xM_light, .int xM_water, .ref aMnerve, .ref aMkind, .int xM_readWalkers, .int xM_readLight, .int xM_readWater, .ref aMreadNerve, .ref aMreadKind, .ref aMpage, .ref aMtrial, .ref aMbook, .int xM_acts, .ref aMkept, .ref aMisKept, .int xM_told, .ref aMtoldMinute, .ref aMtoldHeard, .long xM_seed, .int xM_orderBest, .int xM_orderMany, .ref aMworth, .int xM_turned], oI aMnerve iMnerve 5 xMnerve, oI aMkind iMkind 5 xMkind, oI aMpage iMpage 13 xMpage, oI aMtrial iMtrial 13 xMtrial, oI aMworth iMworth 32 xMworth]) hC [.int j9] (cX5_many_m (kl X) (kD X) j9 z131 hz131) gX5_share_X5_many rfl kyX5_many rfl [] [0, 1, 2, 3, 4, 5] [] [0, 1, 2, 3, 4, 5] rfl rfl rfl rfl (by decide) rfl rfl rfl ⟨rfl, rfl⟩ ⟨Nat.le_of_ble_eq_true rfl, Nat.le_of_ble_eq_true rfl⟩ (Nat.le_of_ble_eq_true rfl) rfl dX5_share_131 ?_
              refine g_istore (lv' := [(10, .int z131), (0, .ref aM), (1, .int j1), (5, .int j5), (6, .int j6), (7, .int j7), (8, .int j8), (9, .int j9)]) hC dX5_share_134 (by decide) rfl ?_
              refine g_iload hC 6 dX5_share_136 rfl ?_
              refine g_iload hC 0 dX5_share_138 rfl ?_
              obtain ⟨z140, hz140, hf⟩ := gd_b hf
              refine g_callSi (wr := [oO aM 4 [.int xM_thrown, .ref aMtext, .int xM_textSize, .int xM_place, .int xM_walkers, .int xM_light, .int xM_water, .ref aMnerve, .ref aMkind, .int xM_readWalkers, .int xM_readLight, .int xM_readWater, .ref aMreadNerve, .ref aMreadKind, .ref aMpage, .ref aMtrial, .ref aMbook, .int xM_acts, .ref aMkept, .ref aMisKept, .int xM_told, .ref aMtoldMinute, .ref aMtoldHeard, .long xM_seed, .int xM_orderBest, .int xM_orderMany, .ref aMworth, .int xM_turned], oI aMnerve iMnerve 5 xMnerve, oI aMkind iMkind 5 xMkind, oI aMpage iMpage 13 xMpage, oI aMtrial iMtrial 13 xMtrial, oI aMworth iMworth 32 xMworth]) (wn := [oO aM 4 [.int xM_thrown, .ref aMtext, .int xM_textSize, .int xM_place, .int xM_walkers, .int xM_light, .int xM_water, .ref aMnerve, .ref aMkind, .int xM_readWalkers, .int xM_readLight, .int xM_readWater, .ref aMreadNerve, .ref aMreadKind, .ref aMpage, .ref aMtrial, .ref aMbook, .int xM_acts, .ref aMkept, .ref aMisKept, .int xM_told, .ref aMtoldMinute, .ref aMtoldHeard, .long xM_seed, .int xM_orderBest, .int xM_orderMany, .ref aMworth, .int xM_turned], oI aMnerve iMnerve 5 xMnerve, oI aMkind iMkind 5 xMkind, oI aMpage iMpage 13 xMpage, oI aMtrial iMtrial 13 xMtrial, oI aMworth iMworth 32 xMworth]) hC [.int z131] (cX5_orders_m (kl X) (kD X) z131 z140 hz140) gX5_share_X5_orders rfl kyX5_orders rfl [] [0, 1, 2, 3, 4, 5] [] [0, 1, 2, 3, 4, 5] rfl rfl rfl rfl (by decide) rfl rfl rfl ⟨rfl, rfl⟩ ⟨Nat.le_of_ble_eq_true rfl, Nat.le_of_ble_eq_true rfl⟩ (Nat.le_of_ble_eq_true rfl) rfl dX5_share_140 ?_
              refine g_iload hC 5 dX5_share_143 rfl ?_
              refine g_iconst (v := (1 : Int32)) hC dX5_share_145 ci_1 ?_
              refine g_isub hC dX5_share_146 ?_
              refine g_iload hC 0 dX5_share_147 rfl ?_
              refine g_isub hC dX5_share_149 ?_
              obtain ⟨z150, hz150, hf⟩ := gd_b hf
              refine g_callSi (wr := [oO aM 4 [.int xM_thrown, .ref aMtext, .int xM_textSize, .int xM_place, .int xM_walkers, .int xM_light, .int xM_water, .ref aMnerve, .ref aMkind, .int xM_readWalkers, .int xM_readLight, .int xM_readWater, .ref aMreadNerve, .ref aMreadKind, .ref aMpage, .ref aMtrial, .ref aMbook, .int xM_acts, .ref aMkept, .ref aMisKept, .int xM_told, .ref aMtoldMinute, .ref aMtoldHeard, .long xM_seed, .int xM_orderBest, .int xM_orderMany, .ref aMworth, .int xM_turned], oI aMnerve iMnerve 5 xMnerve, oI aMkind iMkind 5 xMkind, oI aMpage iMpage 13 xMpage, oI aMtrial iMtrial 13 xMtrial, oI aMworth iMworth 32 xMworth]) (wn := [oO aM 4 [.int xM_thrown, .ref aMtext, .int xM_textSize, .int xM_place, .int xM_walkers, .int xM_light, .int xM_water, .ref aMnerve, .ref aMkind, .int xM_readWalkers, .int xM_readLight, .int xM_readWater, .ref aMreadNerve, .ref aMreadKind, .ref aMpage, .ref aMtrial, .ref aMbook, .int xM_acts, .ref aMkept, .ref aMisKept, .int xM_told, .ref aMtoldMinute, .ref aMtoldHeard, .long xM_seed, .int xM_orderBest, .int xM_orderMany, .ref aMworth, .int xM_turned], oI aMnerve iMnerve 5 xMnerve, oI aMkind iMkind 5 xMkind, oI aMpage iMpage 13 xMpage, oI aMtrial iMtrial 13 xMtrial, oI aMworth iMworth 32 xMworth]) hC [.int ((j7 - (1 : Int32)) - z131)] (cX5_orders_m (kl X) (kD X) ((j7 - (1 : Int32)) - z131) z150 hz150) gX5_share_X5_orders rfl kyX5_orders rfl [] [0, 1, 2, 3, 4, 5] [] [0, 1, 2, 3, 4, 5] rfl rfl rfl rfl (by decide) rfl rfl rfl ⟨rfl, rfl⟩ ⟨Nat.le_of_ble_eq_true rfl, Nat.le_of_ble_eq_true rfl⟩ (Nat.le_of_ble_eq_true rfl) rfl dX5_share_150 ?_
              refine g_imul hC dX5_share_153 ?_
              refine g_aload_n hC 1 dX5_share_154 rfl rfl ?_
              refine g_get (C := RX5) (T := TX5) (N := 28) (v := .ref aMworth) hC hinX5 0 26 rfl rfl (by decide) (List.mem_of_getElem? (i := 3) rfl) rfl dX5_share_155 ?_
              refine g_iload hC 7 dX5_share_158 rfl ?_
              refine g_iconst (v := (1 : Int32)) hC dX5_share_160 ci_1 ?_
              refine g_iload_n hC 2 dX5_share_161 rfl rfl ?_
              refine g_ishl hC dX5_share_162 ?_
              refine g_ior hC dX5_share_163 ?_
              obtain ⟨hg, hf⟩ := gd_ga hf
              refine g_iald hC 5 4 hg rfl rfl dX5_share_164 ?_
              refine g_aload_n hC 1 dX5_share_165 rfl rfl ?_
              refine g_get (C := RX5) (T := TX5) (N := 28) (v := .ref aMworth) hC hinX5 0 26 rfl rfl (by decide) (List.mem_of_getElem? (i := 3) rfl) rfl dX5_share_166 ?_
              refine g_iload hC 7 dX5_share_169 rfl ?_
              obtain ⟨hg, hf⟩ := gd_ga hf
              refine g_iald hC 5 4 hg rfl rfl dX5_share_171 ?_
              refine g_isub hC dX5_share_172 ?_
              refine g_imul hC dX5_share_173 ?_
              refine g_iadd hC dX5_share_174 ?_
              refine g_istore (lv' := [(8, .int (j8 + ((z140 * z150) * ((xMworth (j9 ||| ((1 : Int32) <<< (j1 &&& 31))).toNatClampNeg) - (xMworth j9.toNatClampNeg))))), (10, .int z131), (0, .ref aM), (1, .int j1), (5, .int j5), (6, .int j6), (7, .int j7), (9, .int j9)]) hC dX5_share_175 (by decide) rfl ?_
              refine g_lv (lv' := [(0, .ref aM), (1, .int j1), (5, .int j5), (6, .int j6), (7, .int j7), (8, .int (j8 + ((z140 * z150) * ((xMworth (j9 ||| ((1 : Int32) <<< (j1 &&& 31))).toNatClampNeg) - (xMworth j9.toNatClampNeg))))), (9, .int j9)]) [2, 3, 4, 5, 6, 0, 7] rfl ?_
              exact t177 k94 hk94 j1 j5 j6 j7 (j8 + ((z140 * z150) * ((xMworth (j9 ||| ((1 : Int32) <<< (j1 &&& 31))).toNatClampNeg) - (xMworth j9.toNatClampNeg)))) j9 xM_thrown xM_turned xMtrial xMworth hf
  have t84 : ∀ (k49 : Int32 → Int32 → Int64 → Int32 → Int32 → Int32 → Int32 → Int32 → Int32 → Int32 → (Nat → Int32) → (Nat → Int32) → Option (Int32 × Int32 × Int32 × (Nat → Int32) × (Nat → Int32))) (hk49 : ∀ (j1 : Int32) (j2 : Int32) (j3 : Int64) (j5 : Int32) (j6 : Int32) (j7 : Int32) (j8 : Int32) (j9 : Int32) (xM_thrown : Int32) (xM_turned : Int32) (xMtrial : Nat → Int32) (xMworth : Nat → Int32), k49 j1 j2 j3 j5 j6 j7 j8 j9 xM_thrown xM_turned xMtrial xMworth = some z → kG X 49 [(0, .ref aM), (1, .int j1), (2, .int j2), (3, .long j3), (5, .int j5), (6, .int j6), (7, .int j7), (8, .int j8), (9, .int j9)] [] [oO aM 4 [.int xM_thrown, .ref aMtext, .int xM_textSize, .int xM_place, .int xM_walkers, .int xM_light, .int xM_water, .ref aMnerve, .ref aMkind, .int xM_readWalkers, .int xM_readLight, .int xM_readWater, .ref aMreadNerve, .ref aMreadKind, .ref aMpage, .ref aMtrial, .ref aMbook, .int xM_acts, .ref aMkept, .ref aMisKept, .int xM_told, .ref aMtoldMinute, .ref aMtoldHeard, .long xM_seed, .int xM_orderBest, .int xM_orderMany, .ref aMworth, .int xM_turned], oI aMnerve iMnerve 5 xMnerve, oI aMkind iMkind 5 xMkind, oI aMpage iMpage 13 xMpage, oI aMtrial iMtrial 13 xMtrial, oI aMworth iMworth 32 xMworth]) (j1 : Int32) (j2 : Int32) (j3 : Int64) (j5 : Int32) (j6 : Int32) (j7 : Int32) (j8 : Int32) (j9 : Int32) (y0 : Int32) (y1 : Int32) (xM_thrown : Int32) (xM_turned : Int32) (xMtrial : Nat → Int32) (xMworth : Nat → Int32), fX5_share_b84 xM_walkers xM_light xM_water xMnerve xMkind xMpage k49 j1 j2 j3 j5 j6 j7 j8 j9 y0 y1 xM_thrown xM_turned xMtrial xMworth = some z → kG X 84 [(0, .ref aM), (1, .int j1), (2, .int j2), (3, .long j3), (5, .int j5), (6, .int j6), (7, .int j7), (8, .int j8), (9, .int j9)] [.int y0, .int y1, .ref aMworth] [oO aM 4 [.int xM_thrown, .ref aMtext, .int xM_textSize, .int xM_place, .int xM_walkers, .int xM_light, .int xM_water, .ref aMnerve, .ref aMkind, .int xM_readWalkers, .int xM_readLight, .int xM_readWater, .ref aMreadNerve, .ref aMreadKind, .ref aMpage, .ref aMtrial, .ref aMbook, .int xM_acts, .ref aMkept, .ref aMisKept, .int xM_told, .ref aMtoldMinute, .ref aMtoldHeard, .long xM_seed, .int xM_orderBest, .int xM_orderMany, .ref aMworth, .int xM_turned], oI aMnerve iMnerve 5 xMnerve, oI aMkind iMkind 5 xMkind, oI aMpage iMpage 13 xMpage, oI aMtrial iMtrial 13 xMtrial, oI aMworth iMworth 32 xMworth] := by
    intro k49 hk49 j1 j2 j3 j5 j6 j7 j8 j9 y0 y1 xM_thrown xM_turned xMtrial xMworth hf
    unfold fX5_share_b84 at hf
    obtain ⟨hg, hf⟩ := gd_ga hf
    refine g_iast (ws' := [oO aM 4 [.int xM_thrown, .ref aMtext, .int xM_textSize, .int xM_place, .int xM_walkers, .int xM_light, .int xM_water, .ref aMnerve, .ref aMkind, .int xM_readWalkers, .int xM_readLight, .int xM_readWater, .ref aMreadNerve, .ref aMreadKind, .ref aMpage, .ref aMtrial, .ref aMbook, .int xM_acts, .ref aMkept, .ref aMisKept, .int xM_told, .ref aMtoldMinute, .ref aMtoldHeard, .long xM_seed, .int xM_orderBest, .int xM_orderMany, .ref aMworth, .int xM_turned], oI aMnerve iMnerve 5 xMnerve, oI aMkind iMkind 5 xMkind, oI aMpage iMpage 13 xMpage, oI aMtrial iMtrial 13 xMtrial, oI aMworth iMworth 32 (upd xMworth y1.toNatClampNeg y0)]) hC 5 4 hg rfl rfl dX5_share_84 rfl ?_
    refine g_iinc (v := (j9 + (1 : Int32))) (lv' := [(9, .int (j9 + (1 : Int32))), (0, .ref aM), (1, .int j1), (2, .int j2), (3, .long j3), (5, .int j5), (6, .int j6), (7, .int j7), (8, .int j8)]) hC 8 dX5_share_85 rfl (ii _ ci_1) (by decide) rfl ?_
    refine g_goto (tgt := 49) hC dX5_share_88 (by decide) ?_
    refine g_lv (lv' := [(0, .ref aM), (1, .int j1), (2, .int j2), (3, .long j3), (5, .int j5), (6, .int j6), (7, .int j7), (8, .int j8), (9, .int (j9 + (1 : Int32)))]) [1, 2, 3, 4, 5, 6, 7, 8, 0] rfl ?_
    exact hk49 j1 j2 j3 j5 j6 j7 j8 (j9 + (1 : Int32)) xM_thrown xM_turned xMtrial (upd xMworth y1.toNatClampNeg y0) hf
  have t49 : ∀  (n : Nat) (j1 : Int32) (j2 : Int32) (j3 : Int64) (j5 : Int32) (j6 : Int32) (j7 : Int32) (j8 : Int32) (j9 : Int32) (xM_thrown : Int32) (xM_turned : Int32) (xMtrial : Nat → Int32) (xMworth : Nat → Int32), lp (fun _ _ _ _ _ _ _ _ _ _ _ _ => none) (fX5_share_b49_S xM_walkers xM_light xM_water xMnerve xMkind xMpage ) n j1 j2 j3 j5 j6 j7 j8 j9 xM_thrown xM_turned xMtrial xMworth = some z → kG X 49 [(0, .ref aM), (1, .int j1), (2, .int j2), (3, .long j3), (5, .int j5), (6, .int j6), (7, .int j7), (8, .int j8), (9, .int j9)] [] [oO aM 4 [.int xM_thrown, .ref aMtext, .int xM_textSize, .int xM_place, .int xM_walkers, .int xM_light, .int xM_water, .ref aMnerve, .ref aMkind, .int xM_readWalkers, .int xM_readLight, .int xM_readWater, .ref aMreadNerve, .ref aMreadKind, .ref aMpage, .ref aMtrial, .ref aMbook, .int xM_acts, .ref aMkept, .ref aMisKept, .int xM_told, .ref aMtoldMinute, .ref aMtoldHeard, .long xM_seed, .int xM_orderBest, .int xM_orderMany, .ref aMworth, .int xM_turned], oI aMnerve iMnerve 5 xMnerve, oI aMkind iMkind 5 xMkind, oI aMpage iMpage 13 xMpage, oI aMtrial iMtrial 13 xMtrial, oI aMworth iMworth 32 xMworth] := by
    intro  n
    induction n with
    | zero => intro j1 j2 j3 j5 j6 j7 j8 j9 xM_thrown xM_turned xMtrial xMworth hf; cases hf
    | succ n hk49 =>
      intro j1 j2 j3 j5 j6 j7 j8 j9 xM_thrown xM_turned xMtrial xMworth hf
      rw [lp_s] at hf
      revert hf hk49
      generalize lp (fun _ _ _ _ _ _ _ _ _ _ _ _ => none) (fX5_share_b49_S xM_walkers xM_light xM_water xMnerve xMkind xMpage ) n = k49
      intro hk49 hf
      unfold fX5_share_b49_S at hf
      refine g_iload hC 8 dX5_share_49 rfl ?_
      refine g_bipush (v := (32 : Int32)) hC dX5_share_51 cb_32 ?_
      refine g_icmp_ge (tgt := 91) hC dX5_share_53 (by decide) (fun hc => ?_) (fun hc => ?_)
      · replace hf := gd_t hc hf
        refine g_iconst (v := (0 : Int32)) hC dX5_share_91 ci_0 ?_
        refine g_istore (lv' := [(9, .int (0 : Int32)), (0, .ref aM), (1, .int j1), (2, .int j2), (3, .long j3), (5, .int j5), (6, .int j6), (7, .int j7), (8, .int j8)]) hC dX5_share_92 (by decide) rfl ?_
        refine g_lv (lv' := [(0, .ref aM), (1, .int j1), (5, .int j5), (6, .int j6), (7, .int j7), (8, .int j8), (9, .int (0 : Int32))]) [1, 2, 5, 6, 7, 8, 0] rfl ?_
        exact t94  fu j1 j5 j6 j7 j8 (0 : Int32) xM_thrown xM_turned xMtrial xMworth hf
      · replace hf := gd_f hc hf
        refine g_aload_n hC 0 dX5_share_56 rfl rfl ?_
        refine g_get (C := RX5) (T := TX5) (N := 28) (v := .ref aMworth) hC hinX5 0 26 rfl rfl (by decide) (List.mem_of_getElem? (i := 3) rfl) rfl dX5_share_57 ?_
        refine g_iload hC 8 dX5_share_60 rfl ?_
        refine g_iload hC 8 dX5_share_62 rfl ?_
        refine g_iload hC 5 dX5_share_64 rfl ?_
        refine g_iconst (v := (-1 : Int32)) hC dX5_share_66 ci_m1 ?_
        refine g_ixor hC dX5_share_67 ?_
        refine g_iand hC dX5_share_68 ?_
        refine g_if_ne (tgt := 83) hC dX5_share_69 (by decide) (fun hc => ?_) (fun hc => ?_)
        · replace hf := gd_f hc hf
          refine g_iconst (v := (0 : Int32)) hC dX5_share_83 ci_0 ?_
          exact t84 k49 hk49 j1 j2 j3 j5 j6 j7 j8 j9 (0 : Int32) j9 xM_thrown xM_turned xMtrial xMworth hf
        · replace hf := gd_t hc hf
          refine g_aload_n hC 0 dX5_share_72 rfl rfl ?_
          refine g_iload hC 8 dX5_share_73 rfl ?_
          refine g_iload_n hC 2 dX5_share_75 rfl rfl ?_
          refine g_lload_n hC 3 dX5_share_76 rfl rfl ?_
          obtain ⟨z77, hz77, hf⟩ := gd_b hf
          refine g_callVi (wr := [oI aMworth iMworth 32 xMworth]) (wn := [oO aM 4 [.int xM_thrown, .ref aMtext, .int xM_textSize, .int xM_place, .int xM_walkers, .int xM_light, .int xM_water, .ref aMnerve, .ref aMkind, .int xM_readWalkers, .int xM_readLight, .int xM_readWater, .ref aMreadNerve, .ref aMreadKind, .ref aMpage, .ref aMtrial, .ref aMbook, .int xM_acts, .ref aMkept, .ref aMisKept, .int xM_told, .ref aMtoldMinute, .ref aMtoldHeard, .long xM_seed, .int xM_orderBest, .int xM_orderMany, .ref aMworth, .int z77.2.1], oI aMnerve iMnerve 5 xMnerve, oI aMkind iMkind 5 xMkind, oI aMpage iMpage 13 xMpage, oI aMtrial iMtrial 13 z77.2.2, oI aMworth iMworth 32 xMworth]) hC [.int j9, .int j2, .long j3] (cX5_worthOf_m (kl X) (kD X) aM aMtext aMnerve aMkind aMreadNerve aMreadKind aMpage aMtrial aMbook aMkept aMisKept aMtoldMinute aMtoldHeard aMworth iMnerve iMkind iMpage iMtrial xM_thrown xM_textSize xM_place xM_walkers xM_light xM_water xM_readWalkers xM_readLight xM_readWater xM_acts xM_told xM_seed xM_orderBest xM_orderMany xM_turned xMnerve xMkind xMpage xMtrial j9 j2 j3 z77 hz77) gX5_share_X5_worthOf rfl kyX5_worthOf rfl rfl rfl (q0 := 0) rfl [0, 1, 2, 3, 4] [5] [0, 1, 2, 3] [1, 2, 3, 4, 5, 0] rfl rfl rfl rfl (by decide) rfl rfl rfl ⟨rfl, rfl⟩ ⟨Nat.le_of_ble_eq_true rfl, Nat.le_of_ble_eq_true rfl⟩ (Nat.le_of_ble_eq_true rfl) rfl dX5_share_77 ?_
          refine g_goto (tgt := 84) hC dX5_share_80 (by decide) ?_
          exact t84 k49 hk49 j1 j2 j3 j5 j6 j7 j8 j9 z77.1 j9 xM_thrown z77.2.1 z77.2.2 xMworth hf
  unfold fX5_share at hf
  refine g_aload_n hC 0 dX5_share_0 rfl rfl ?_
  refine g_iconst (v := (0 : Int32)) hC dX5_share_1 ci_0 ?_
  refine g_put (C := RX5) (T := TX5) (N := 28) (ty := .int) (ws' := [oO aM 4 [.int (0 : Int32), .ref aMtext, .int xM_textSize, .int xM_place, .int xM_walkers, .int xM_light, .int xM_water, .ref aMnerve, .ref aMkind, .int xM_readWalkers, .int xM_readLight, .int xM_readWater, .ref aMreadNerve, .ref aMreadKind, .ref aMpage, .ref aMtrial, .ref aMbook, .int xM_acts, .ref aMkept, .ref aMisKept, .int xM_told, .ref aMtoldMinute, .ref aMtoldHeard, .long xM_seed, .int xM_orderBest, .int xM_orderMany, .ref aMworth, .int xM_turned], oI aMnerve iMnerve 5 xMnerve, oI aMkind iMkind 5 xMkind, oI aMpage iMpage 13 xMpage, oI aMtrial iMtrial 13 xMtrial, oI aMworth iMworth 32 xMworth]) hC tyX5_ok nmX5 hinX5 0 0 rfl rfl (by decide) (List.mem_of_getElem? (i := 1) rfl) rfl rfl rfl rfl (Nat.le_of_ble_eq_true rfl) dX5_share_2 rfl ?_
  refine g_aload_n hC 0 dX5_share_5 rfl rfl ?_
  refine g_iload_n hC 1 dX5_share_6 rfl rfl ?_
  obtain ⟨z7, hz7, hf⟩ := gd_b hf
  refine g_callVi (wr := [oI aMnerve iMnerve 5 xMnerve, oI aMkind iMkind 5 xMkind, oI aMpage iMpage 13 xMpage, oI aMtrial iMtrial 13 xMtrial, oI aMworth iMworth 32 xMworth]) (wn := [oO aM 4 [.int (0 : Int32), .ref aMtext, .int xM_textSize, .int xM_place, .int xM_walkers, .int xM_light, .int xM_water, .ref aMnerve, .ref aMkind, .int xM_readWalkers, .int xM_readLight, .int xM_readWater, .ref aMreadNerve, .ref aMreadKind, .ref aMpage, .ref aMtrial, .ref aMbook, .int xM_acts, .ref aMkept, .ref aMisKept, .int xM_told, .ref aMtoldMinute, .ref aMtoldHeard, .long xM_seed, .int xM_orderBest, .int xM_orderMany, .ref aMworth, .int xM_turned], oI aMnerve iMnerve 5 xMnerve, oI aMkind iMkind 5 xMkind, oI aMpage iMpage 13 xMpage, oI aMtrial iMtrial 13 xMtrial, oI aMworth iMworth 32 xMworth]) hC [.int j1] (cX5_noOne_m (kl X) (kD X) aM aMtext aMnerve aMkind aMreadNerve aMreadKind aMpage aMtrial aMbook aMkept aMisKept aMtoldMinute aMtoldHeard aMworth (0 : Int32) xM_textSize xM_place xM_walkers xM_light xM_water xM_readWalkers xM_readLight xM_readWater xM_acts xM_told xM_seed xM_orderBest xM_orderMany xM_turned j1 z7 hz7) gX5_share_X5_noOne rfl kyX5_noOne rfl rfl rfl (q0 := 0) rfl [0] [1, 2, 3, 4, 5] [] [5, 0, 1, 2, 3, 4] rfl rfl rfl rfl (by decide) rfl rfl rfl ⟨rfl, rfl⟩ ⟨Nat.le_of_ble_eq_true rfl, Nat.le_of_ble_eq_true rfl⟩ (Nat.le_of_ble_eq_true rfl) rfl dX5_share_7 ?_
  refine g_if_eq (tgt := 15) hC dX5_share_10 (by decide) (fun hc => ?_) (fun hc => ?_)
  · replace hf := gd_t hc hf
    refine g_iload_n hC 2 dX5_share_15 rfl rfl ?_
    refine g_lload_n hC 3 dX5_share_16 rfl rfl ?_
    obtain ⟨z17, hz17, hf⟩ := gd_b hf
    refine g_callSi (wr := [oO aM 4 [.int (0 : Int32), .ref aMtext, .int xM_textSize, .int xM_place, .int xM_walkers, .int xM_light, .int xM_water, .ref aMnerve, .ref aMkind, .int xM_readWalkers, .int xM_readLight, .int xM_readWater, .ref aMreadNerve, .ref aMreadKind, .ref aMpage, .ref aMtrial, .ref aMbook, .int xM_acts, .ref aMkept, .ref aMisKept, .int xM_told, .ref aMtoldMinute, .ref aMtoldHeard, .long xM_seed, .int xM_orderBest, .int xM_orderMany, .ref aMworth, .int xM_turned], oI aMnerve iMnerve 5 xMnerve, oI aMkind iMkind 5 xMkind, oI aMpage iMpage 13 xMpage, oI aMtrial iMtrial 13 xMtrial, oI aMworth iMworth 32 xMworth]) (wn := [oO aM 4 [.int (0 : Int32), .ref aMtext, .int xM_textSize, .int xM_place, .int xM_walkers, .int xM_light, .int xM_water, .ref aMnerve, .ref aMkind, .int xM_readWalkers, .int xM_readLight, .int xM_readWater, .ref aMreadNerve, .ref aMreadKind, .ref aMpage, .ref aMtrial, .ref aMbook, .int xM_acts, .ref aMkept, .ref aMisKept, .int xM_told, .ref aMtoldMinute, .ref aMtoldHeard, .long xM_seed, .int xM_orderBest, .int xM_orderMany, .ref aMworth, .int xM_turned], oI aMnerve iMnerve 5 xMnerve, oI aMkind iMkind 5 xMkind, oI aMpage iMpage 13 xMpage, oI aMtrial iMtrial 13 xMtrial, oI aMworth iMworth 32 xMworth]) hC [.int j2, .long j3] (cX5_noSong_m (kl X) (kD X) j2 j3 z17 hz17) gX5_share_X5_noSong rfl kyX5_noSong rfl [] [0, 1, 2, 3, 4, 5] [] [0, 1, 2, 3, 4, 5] rfl rfl rfl rfl (by decide) rfl rfl rfl ⟨rfl, rfl⟩ ⟨Nat.le_of_ble_eq_true rfl, Nat.le_of_ble_eq_true rfl⟩ (Nat.le_of_ble_eq_true rfl) rfl dX5_share_17 ?_
    refine g_if_eq (tgt := 26) hC dX5_share_20 (by decide) (fun hc => ?_) (fun hc => ?_)
    · replace hf := gd_t hc hf
      refine g_aload_n hC 0 dX5_share_26 rfl rfl ?_
      refine g_get (C := RX5) (T := TX5) (N := 28) (v := .ref aMpage) hC hinX5 0 14 rfl rfl (by decide) (List.mem_of_getElem? (i := 2) rfl) rfl dX5_share_27 ?_
      obtain ⟨z30, hz30, hf⟩ := gd_b hf
      refine g_callSi (wr := [oO aM 4 [.int (0 : Int32), .ref aMtext, .int xM_textSize, .int xM_place, .int xM_walkers, .int xM_light, .int xM_water, .ref aMnerve, .ref aMkind, .int xM_readWalkers, .int xM_readLight, .int xM_readWater, .ref aMreadNerve, .ref aMreadKind, .ref aMpage, .ref aMtrial, .ref aMbook, .int xM_acts, .ref aMkept, .ref aMisKept, .int xM_told, .ref aMtoldMinute, .ref aMtoldHeard, .long xM_seed, .int xM_orderBest, .int xM_orderMany, .ref aMworth, .int xM_turned], oI aMnerve iMnerve 5 xMnerve, oI aMkind iMkind 5 xMkind, oI aMtrial iMtrial 13 xMtrial, oI aMworth iMworth 32 xMworth]) (wn := [oO aM 4 [.int (0 : Int32), .ref aMtext, .int xM_textSize, .int xM_place, .int xM_walkers, .int xM_light, .int xM_water, .ref aMnerve, .ref aMkind, .int xM_readWalkers, .int xM_readLight, .int xM_readWater, .ref aMreadNerve, .ref aMreadKind, .ref aMpage, .ref aMtrial, .ref aMbook, .int xM_acts, .ref aMkept, .ref aMisKept, .int xM_told, .ref aMtoldMinute, .ref aMtoldHeard, .long xM_seed, .int xM_orderBest, .int xM_orderMany, .ref aMworth, .int xM_turned], oI aMnerve iMnerve 5 xMnerve, oI aMkind iMkind 5 xMkind, oI aMpage iMpage 13 xMpage, oI aMtrial iMtrial 13 xMtrial, oI aMworth iMworth 32 xMworth]) hC [.ref aMpage] (cX5_rowOf_m (kl X) (kD X) aMpage iMpage xMpage z30 hz30) gX5_share_X5_rowOf rfl kyX5_rowOf rfl [3] [0, 1, 2, 4, 5] [2] [0, 1, 2, 5, 3, 4] rfl rfl rfl rfl (by decide) rfl rfl rfl ⟨rfl, rfl⟩ ⟨Nat.le_of_ble_eq_true rfl, Nat.le_of_ble_eq_true rfl⟩ (Nat.le_of_ble_eq_true rfl) rfl dX5_share_30 ?_
      refine g_istore (lv' := [(6, .int z30), (0, .ref aM), (1, .int j1), (2, .int j2), (3, .long j3), (5, .int j5)]) hC dX5_share_33 (by decide) rfl ?_
      refine g_aload_n hC 1 dX5_share_35 rfl rfl ?_
      refine g_get (C := RX5) (T := TX5) (N := 28) (v := .ref aMpage) hC hinX5 0 14 rfl rfl (by decide) (List.mem_of_getElem? (i := 2) rfl) rfl dX5_share_36 ?_
      refine g_iconst (v := (5 : Int32)) hC dX5_share_39 ci_5 ?_
      obtain ⟨hg, hf⟩ := gd_ga hf
      refine g_iald hC 3 2 hg rfl rfl dX5_share_40 ?_
      refine g_istore (lv' := [(7, .int (xMpage (5 : Int32).toNatClampNeg)), (6, .int z30), (0, .ref aM), (1, .int j1), (2, .int j2), (3, .long j3), (5, .int j5)]) hC dX5_share_41 (by decide) rfl ?_
      refine g_iconst (v := (0 : Int32)) hC dX5_share_43 ci_0 ?_
      refine g_istore (lv' := [(8, .int (0 : Int32)), (7, .int (xMpage (5 : Int32).toNatClampNeg)), (6, .int z30), (0, .ref aM), (1, .int j1), (2, .int j2), (3, .long j3), (5, .int j5)]) hC dX5_share_44 (by decide) rfl ?_
      refine g_iconst (v := (0 : Int32)) hC dX5_share_46 ci_0 ?_
      refine g_istore (lv' := [(9, .int (0 : Int32)), (8, .int (0 : Int32)), (7, .int (xMpage (5 : Int32).toNatClampNeg)), (6, .int z30), (0, .ref aM), (1, .int j1), (2, .int j2), (3, .long j3), (5, .int j5)]) hC dX5_share_47 (by decide) rfl ?_
      refine g_lv (lv' := [(0, .ref aM), (1, .int j1), (2, .int j2), (3, .long j3), (5, .int j5), (6, .int z30), (7, .int (xMpage (5 : Int32).toNatClampNeg)), (8, .int (0 : Int32)), (9, .int (0 : Int32))]) [4, 5, 6, 7, 8, 3, 2, 1, 0] rfl ?_
      exact t49  fu j1 j2 j3 j5 z30 (xMpage (5 : Int32).toNatClampNeg) (0 : Int32) (0 : Int32) (0 : Int32) xM_turned xMtrial xMworth hf
    · replace hf := gd_f hc hf
      refine g_bipush (v := (-2 : Int32)) hC dX5_share_23 cb_m2 ?_
      exact hQ ((-2 : Int32), (0 : Int32), xM_turned, xMtrial, xMworth) _ _ (gd_s hf) dX5_share_25
  · replace hf := gd_f hc hf
    refine g_iconst (v := (-1 : Int32)) hC dX5_share_13 ci_m1 ?_
    exact hQ ((-1 : Int32), (0 : Int32), xM_turned, xMtrial, xMworth) _ _ (gd_s hf) dX5_share_14
theorem kyX5_bears : yX5_bears.cls = RX5 ∧ yX5_bears.cls ≠ "java/lang/invoke/MethodHandle" ∧ yX5_bears.cls ≠ "java/lang/invoke/VarHandle" ∧ (parseMethodDescriptor yX5_bears.desc).map (fun d => d.parameters.length) = some 1 := by decide +kernel
set_option maxHeartbeats 4000000 in
set_option maxRecDepth 100000 in
theorem cX5_bears_m (l : Launch) (D : va_G) (aM aMtext aMnerve aMkind aMreadNerve aMreadKind aMpage aMtrial aMbook aMkept aMisKept aMtoldMinute aMtoldHeard aMworth : Nat) (iMnerve iMkind iMpage iMtrial : ClassId) (xM_thrown : Int32) (xM_textSize : Int32) (xM_place : Int32) (xM_walkers : Int32) (xM_light : Int32) (xM_water : Int32) (xM_readWalkers : Int32) (xM_readLight : Int32) (xM_readWater : Int32) (xM_acts : Int32) (xM_told : Int32) (xM_seed : Int64) (xM_orderBest : Int32) (xM_orderMany : Int32) (xM_turned : Int32) (xMnerve : Nat → Int32) (xMkind : Nat → Int32) (xMpage : Nat → Int32) (xMtrial : Nat → Int32) (j1 : Int32) (z : Int32 × Int32 × Int32 × (Nat → Int32)) (hf : fX5_bears j1 xM_thrown xM_walkers xM_light xM_water xM_turned xMnerve xMkind xMpage xMtrial = some z) : ∀ sz : Nat, Met l yX5_bears wsX5_bears ({ frames := 3, cells := 0, slots := 0, locals := 71 } : Room) (kPre D [(iMnerve, .int), (iMkind, .int), (iMpage, .int), (iMtrial, .int)] [oO aM 4 [.int xM_thrown, .ref aMtext, .int xM_textSize, .int xM_place, .int xM_walkers, .int xM_light, .int xM_water, .ref aMnerve, .ref aMkind, .int xM_readWalkers, .int xM_readLight, .int xM_readWater, .ref aMreadNerve, .ref aMreadKind, .ref aMpage, .ref aMtrial, .ref aMbook, .int xM_acts, .ref aMkept, .ref aMisKept, .int xM_told, .ref aMtoldMinute, .ref aMtoldHeard, .long xM_seed, .int xM_orderBest, .int xM_orderMany, .ref aMworth, .int xM_turned], oI aMnerve iMnerve 5 xMnerve, oI aMkind iMkind 5 xMkind, oI aMpage iMpage 13 xMpage, oI aMtrial iMtrial 13 xMtrial] sz [.ref aM, .int j1]) (kQi D [(iMnerve, .int), (iMkind, .int), (iMpage, .int), (iMtrial, .int)] [oO aM 4 [.int xM_thrown, .ref aMtext, .int xM_textSize, .int xM_place, .int xM_walkers, .int xM_light, .int xM_water, .ref aMnerve, .ref aMkind, .int xM_readWalkers, .int xM_readLight, .int xM_readWater, .ref aMreadNerve, .ref aMreadKind, .ref aMpage, .ref aMtrial, .ref aMbook, .int xM_acts, .ref aMkept, .ref aMisKept, .int xM_told, .ref aMtoldMinute, .ref aMtoldHeard, .long xM_seed, .int xM_orderBest, .int xM_orderMany, .ref aMworth, .int xM_turned], oI aMnerve iMnerve 5 xMnerve, oI aMkind iMkind 5 xMkind, oI aMpage iMpage 13 xMpage, oI aMtrial iMtrial 13 xMtrial] sz [oO aM 4 [.int z.2.1, .ref aMtext, .int xM_textSize, .int xM_place, .int xM_walkers, .int xM_light, .int xM_water, .ref aMnerve, .ref aMkind, .int xM_readWalkers, .int xM_readLight, .int xM_readWater, .ref aMreadNerve, .ref aMreadKind, .ref aMpage, .ref aMtrial, .ref aMbook, .int xM_acts, .ref aMkept, .ref aMisKept, .int xM_told, .ref aMtoldMinute, .ref aMtoldHeard, .long xM_seed, .int xM_orderBest, .int xM_orderMany, .ref aMworth, .int z.2.2.1], oI aMnerve iMnerve 5 xMnerve, oI aMkind iMkind 5 xMkind, oI aMpage iMpage 13 xMpage, oI aMtrial iMtrial 13 z.2.2.2] z.1) 0 0 (va_A [oO aM 4 [.int xM_thrown, .ref aMtext, .int xM_textSize, .int xM_place, .int xM_walkers, .int xM_light, .int xM_water, .ref aMnerve, .ref aMkind, .int xM_readWalkers, .int xM_readLight, .int xM_readWater, .ref aMreadNerve, .ref aMreadKind, .ref aMpage, .ref aMtrial, .ref aMbook, .int xM_acts, .ref aMkept, .ref aMisKept, .int xM_told, .ref aMtoldMinute, .ref aMtoldHeard, .long xM_seed, .int xM_orderBest, .int xM_orderMany, .ref aMworth, .int xM_turned], oI aMnerve iMnerve 5 xMnerve, oI aMkind iMkind 5 xMkind, oI aMpage iMpage 13 xMpage, oI aMtrial iMtrial 13 xMtrial] sz) := by
  refine kMet_i (own := RX5) z (fun u => u.1) (fun u => [oO aM 4 [.int u.2.1, .ref aMtext, .int xM_textSize, .int xM_place, .int xM_walkers, .int xM_light, .int xM_water, .ref aMnerve, .ref aMkind, .int xM_readWalkers, .int xM_readLight, .int xM_readWater, .ref aMreadNerve, .ref aMreadKind, .ref aMpage, .ref aMtrial, .ref aMbook, .int xM_acts, .ref aMkept, .ref aMisKept, .int xM_told, .ref aMtoldMinute, .ref aMtoldHeard, .long xM_seed, .int xM_orderBest, .int xM_orderMany, .ref aMworth, .int u.2.2.1], oI aMnerve iMnerve 5 xMnerve, oI aMkind iMkind 5 xMkind, oI aMpage iMpage 13 xMpage, oI aMtrial iMtrial 13 u.2.2.2]) rfl (by decide) rfl ⟨rfl, rfl⟩ (Nat.le_of_ble_eq_true rfl) ?_
  intro X hXl hXD hC hQ
  subst hXl
  subst hXD
  change kG X 0 [(0, .ref aM), (1, .int j1)] [] [oO aM 4 [.int xM_thrown, .ref aMtext, .int xM_textSize, .int xM_place, .int xM_walkers, .int xM_light, .int xM_water, .ref aMnerve, .ref aMkind, .int xM_readWalkers, .int xM_readLight, .int xM_readWater, .ref aMreadNerve, .ref aMreadKind, .ref aMpage, .ref aMtrial, .ref aMbook, .int xM_acts, .ref aMkept, .ref aMisKept, .int xM_told, .ref aMtoldMinute, .ref aMtoldHeard, .long xM_seed, .int xM_orderBest, .int xM_orderMany, .ref aMworth, .int xM_turned], oI aMnerve iMnerve 5 xMnerve, oI aMkind iMkind 5 xMkind, oI aMpage iMpage 13 xMpage, oI aMtrial iMtrial 13 xMtrial]
  have hinX5 : ∀ w ∈ wsX50, w ∈ wsX5_bears := fun _ h => List.mem_cons_of_mem _ (List.mem_append_right _ h)
  have t38 : ∀  (n : Nat) (j1 : Int32) (j2 : Int32) (xM_thrown : Int32) (xM_turned : Int32) (xMtrial : Nat → Int32), lp (fun _ _ _ _ _ => none) (fX5_bears_b38_S xM_walkers xM_light xM_water xMnerve xMkind xMpage ) n j1 j2 xM_thrown xM_turned xMtrial = some z → kG X 38 [(0, .ref aM), (1, .int j1), (2, .int j2)] [] [oO aM 4 [.int xM_thrown, .ref aMtext, .int xM_textSize, .int xM_place, .int xM_walkers, .int xM_light, .int xM_water, .ref aMnerve, .ref aMkind, .int xM_readWalkers, .int xM_readLight, .int xM_readWater, .ref aMreadNerve, .ref aMreadKind, .ref aMpage, .ref aMtrial, .ref aMbook, .int xM_acts, .ref aMkept, .ref aMisKept, .int xM_told, .ref aMtoldMinute, .ref aMtoldHeard, .long xM_seed, .int xM_orderBest, .int xM_orderMany, .ref aMworth, .int xM_turned], oI aMnerve iMnerve 5 xMnerve, oI aMkind iMkind 5 xMkind, oI aMpage iMpage 13 xMpage, oI aMtrial iMtrial 13 xMtrial] := by
    intro  n
    induction n with
    | zero => intro j1 j2 xM_thrown xM_turned xMtrial hf; cases hf
    | succ n hk38 =>
      intro j1 j2 xM_thrown xM_turned xMtrial hf
      rw [lp_s] at hf
      revert hf hk38
      generalize lp (fun _ _ _ _ _ => none) (fX5_bears_b38_S xM_walkers xM_light xM_water xMnerve xMkind xMpage ) n = k38
      intro hk38 hf
      unfold fX5_bears_b38_S at hf
      refine g_aload_n hC 0 dX5_bears_38 rfl rfl ?_
      refine g_get (C := RX5) (T := TX5) (N := 28) (v := .ref aMtrial) hC hinX5 0 15 rfl rfl (by decide) (List.mem_of_getElem? (i := 3) rfl) rfl dX5_bears_39 ?_
      refine g_bipush (v := (11 : Int32)) hC dX5_bears_42 cb_11 ?_
      obtain ⟨hg, hf⟩ := gd_ga hf
      refine g_iald hC 4 3 hg rfl rfl dX5_bears_44 ?_
      refine g_aload_n hC 0 dX5_bears_45 rfl rfl ?_
      refine g_get (C := RX5) (T := TX5) (N := 28) (v := .int xM_light) hC hinX5 0 5 rfl rfl (by decide) (List.mem_of_getElem? (i := 4) rfl) rfl dX5_bears_46 ?_
      refine g_icmp_ge (tgt := 81) hC dX5_bears_49 (by decide) (fun hc => ?_) (fun hc => ?_)
      · replace hf := gd_t hc hf
        refine g_bipush (v := (-9 : Int32)) hC dX5_bears_81 cb_m9 ?_
        exact hQ ((-9 : Int32), xM_thrown, xM_turned, xMtrial) _ _ (gd_s hf) dX5_bears_83
      · replace hf := gd_f hc hf
        refine g_aload_n hC 0 dX5_bears_52 rfl rfl ?_
        refine g_aload_n hC 0 dX5_bears_53 rfl rfl ?_
        refine g_get (C := RX5) (T := TX5) (N := 28) (v := .ref aMtrial) hC hinX5 0 15 rfl rfl (by decide) (List.mem_of_getElem? (i := 3) rfl) rfl dX5_bears_54 ?_
        refine g_iconst (v := (0 : Int32)) hC dX5_bears_57 ci_0 ?_
        obtain ⟨z58, hz58, hf⟩ := gd_b hf
        refine g_callVi (wr := [oI aMpage iMpage 13 xMpage]) (wn := [oO aM 4 [.int xM_thrown, .ref aMtext, .int xM_textSize, .int xM_place, .int xM_walkers, .int xM_light, .int xM_water, .ref aMnerve, .ref aMkind, .int xM_readWalkers, .int xM_readLight, .int xM_readWater, .ref aMreadNerve, .ref aMreadKind, .ref aMpage, .ref aMtrial, .ref aMbook, .int xM_acts, .ref aMkept, .ref aMisKept, .int xM_told, .ref aMtoldMinute, .ref aMtoldHeard, .long xM_seed, .int xM_orderBest, .int xM_orderMany, .ref aMworth, .int z58.2.1], oI aMnerve iMnerve 5 xMnerve, oI aMkind iMkind 5 xMkind, oI aMpage iMpage 13 xMpage, oI aMtrial iMtrial 13 z58.2.2]) hC [.ref aMtrial, .int (0 : Int32)] (cX5_goMinute_m (kl X) (kD X) aM aMtext aMnerve aMkind aMreadNerve aMreadKind aMpage aMtrial aMbook aMkept aMisKept aMtoldMinute aMtoldHeard aMworth aMtrial iMnerve iMkind iMtrial xM_thrown xM_textSize xM_place xM_walkers xM_light xM_water xM_readWalkers xM_readLight xM_readWater xM_acts xM_told xM_seed xM_orderBest xM_orderMany xM_turned xMnerve xMkind xMtrial (0 : Int32) z58 hz58) gX5_bears_X5_goMinute rfl kyX5_goMinute rfl rfl rfl (q0 := 0) rfl [0, 1, 2, 4] [3] [0, 1, 3] [1, 2, 3, 0, 4] rfl rfl rfl rfl (by decide) rfl rfl rfl ⟨rfl, rfl⟩ ⟨Nat.le_of_ble_eq_true rfl, Nat.le_of_ble_eq_true rfl⟩ (Nat.le_of_ble_eq_true rfl) rfl dX5_bears_58 ?_
        refine g_pop hC dX5_bears_61 rfl ?_
        refine g_aload_n hC 0 dX5_bears_62 rfl rfl ?_
        refine g_get (C := RX5) (T := TX5) (N := 28) (v := .int z58.2.1) hC hinX5 0 27 rfl rfl (by decide) (List.mem_of_getElem? (i := 5) rfl) rfl dX5_bears_63 ?_
        refine g_iload_n hC 1 dX5_bears_66 rfl rfl ?_
        obtain ⟨z67, hz67, hf⟩ := gd_b hf
        refine g_callSi (wr := [oO aM 4 [.int xM_thrown, .ref aMtext, .int xM_textSize, .int xM_place, .int xM_walkers, .int xM_light, .int xM_water, .ref aMnerve, .ref aMkind, .int xM_readWalkers, .int xM_readLight, .int xM_readWater, .ref aMreadNerve, .ref aMreadKind, .ref aMpage, .ref aMtrial, .ref aMbook, .int xM_acts, .ref aMkept, .ref aMisKept, .int xM_told, .ref aMtoldMinute, .ref aMtoldHeard, .long xM_seed, .int xM_orderBest, .int xM_orderMany, .ref aMworth, .int z58.2.1], oI aMnerve iMnerve 5 xMnerve, oI aMkind iMkind 5 xMkind, oI aMpage iMpage 13 xMpage, oI aMtrial iMtrial 13 z58.2.2]) (wn := [oO aM 4 [.int xM_thrown, .ref aMtext, .int xM_textSize, .int xM_place, .int xM_walkers, .int xM_light, .int xM_water, .ref aMnerve, .ref aMkind, .int xM_readWalkers, .int xM_readLight, .int xM_readWater, .ref aMreadNerve, .ref aMreadKind, .ref aMpage, .ref aMtrial, .ref aMbook, .int xM_acts, .ref aMkept, .ref aMisKept, .int xM_told, .ref aMtoldMinute, .ref aMtoldHeard, .long xM_seed, .int xM_orderBest, .int xM_orderMany, .ref aMworth, .int z58.2.1], oI aMnerve iMnerve 5 xMnerve, oI aMkind iMkind 5 xMkind, oI aMpage iMpage 13 xMpage, oI aMtrial iMtrial 13 z58.2.2]) hC [.int z58.2.1, .int j1] (cX5_has_m (kl X) (kD X) z58.2.1 j1 z67 hz67) gX5_bears_X5_has rfl kyX5_has rfl [] [0, 1, 2, 3, 4] [] [0, 1, 2, 3, 4] rfl rfl rfl rfl (by decide) rfl rfl rfl ⟨rfl, rfl⟩ ⟨Nat.le_of_ble_eq_true rfl, Nat.le_of_ble_eq_true rfl⟩ (Nat.le_of_ble_eq_true rfl) rfl dX5_bears_67 ?_
        refine g_if_eq (tgt := 75) hC dX5_bears_70 (by decide) (fun hc => ?_) (fun hc => ?_)
        · replace hf := gd_t hc hf
          refine g_iinc (v := (j2 + (1 : Int32))) (lv' := [(2, .int (j2 + (1 : Int32))), (0, .ref aM), (1, .int j1)]) hC 2 dX5_bears_75 rfl (ii _ ci_1) (by decide) rfl ?_
          refine g_goto (tgt := 38) hC dX5_bears_78 (by decide) ?_
          refine g_lv (lv' := [(0, .ref aM), (1, .int j1), (2, .int (j2 + (1 : Int32)))]) [1, 2, 0] rfl ?_
          exact hk38 j1 (j2 + (1 : Int32)) xM_thrown z58.2.1 z58.2.2 hf
        · replace hf := gd_f hc hf
          refine g_iload_n hC 2 dX5_bears_73 rfl rfl ?_
          exact hQ (j2, xM_thrown, z58.2.1, z58.2.2) _ _ (gd_s hf) dX5_bears_74
  unfold fX5_bears at hf
  refine g_aload_n hC 0 dX5_bears_0 rfl rfl ?_
  refine g_iconst (v := (0 : Int32)) hC dX5_bears_1 ci_0 ?_
  refine g_put (C := RX5) (T := TX5) (N := 28) (ty := .int) (ws' := [oO aM 4 [.int (0 : Int32), .ref aMtext, .int xM_textSize, .int xM_place, .int xM_walkers, .int xM_light, .int xM_water, .ref aMnerve, .ref aMkind, .int xM_readWalkers, .int xM_readLight, .int xM_readWater, .ref aMreadNerve, .ref aMreadKind, .ref aMpage, .ref aMtrial, .ref aMbook, .int xM_acts, .ref aMkept, .ref aMisKept, .int xM_told, .ref aMtoldMinute, .ref aMtoldHeard, .long xM_seed, .int xM_orderBest, .int xM_orderMany, .ref aMworth, .int xM_turned], oI aMnerve iMnerve 5 xMnerve, oI aMkind iMkind 5 xMkind, oI aMpage iMpage 13 xMpage, oI aMtrial iMtrial 13 xMtrial]) hC tyX5_ok nmX5 hinX5 0 0 rfl rfl (by decide) (List.mem_of_getElem? (i := 1) rfl) rfl rfl rfl rfl (Nat.le_of_ble_eq_true rfl) dX5_bears_2 rfl ?_
  refine g_aload_n hC 0 dX5_bears_5 rfl rfl ?_
  refine g_iload_n hC 1 dX5_bears_6 rfl rfl ?_
  obtain ⟨z7, hz7, hf⟩ := gd_b hf
  refine g_callVi (wr := [oI aMnerve iMnerve 5 xMnerve, oI aMkind iMkind 5 xMkind, oI aMpage iMpage 13 xMpage, oI aMtrial iMtrial 13 xMtrial]) (wn := [oO aM 4 [.int (0 : Int32), .ref aMtext, .int xM_textSize, .int xM_place, .int xM_walkers, .int xM_light, .int xM_water, .ref aMnerve, .ref aMkind, .int xM_readWalkers, .int xM_readLight, .int xM_readWater, .ref aMreadNerve, .ref aMreadKind, .ref aMpage, .ref aMtrial, .ref aMbook, .int xM_acts, .ref aMkept, .ref aMisKept, .int xM_told, .ref aMtoldMinute, .ref aMtoldHeard, .long xM_seed, .int xM_orderBest, .int xM_orderMany, .ref aMworth, .int xM_turned], oI aMnerve iMnerve 5 xMnerve, oI aMkind iMkind 5 xMkind, oI aMpage iMpage 13 xMpage, oI aMtrial iMtrial 13 xMtrial]) hC [.int j1] (cX5_noOne_m (kl X) (kD X) aM aMtext aMnerve aMkind aMreadNerve aMreadKind aMpage aMtrial aMbook aMkept aMisKept aMtoldMinute aMtoldHeard aMworth (0 : Int32) xM_textSize xM_place xM_walkers xM_light xM_water xM_readWalkers xM_readLight xM_readWater xM_acts xM_told xM_seed xM_orderBest xM_orderMany xM_turned j1 z7 hz7) gX5_bears_X5_noOne rfl kyX5_noOne rfl rfl rfl (q0 := 0) rfl [0] [1, 2, 3, 4] [] [4, 0, 1, 2, 3] rfl rfl rfl rfl (by decide) rfl rfl rfl ⟨rfl, rfl⟩ ⟨Nat.le_of_ble_eq_true rfl, Nat.le_of_ble_eq_true rfl⟩ (Nat.le_of_ble_eq_true rfl) rfl dX5_bears_7 ?_
  refine g_if_eq (tgt := 15) hC dX5_bears_10 (by decide) (fun hc => ?_) (fun hc => ?_)
  · replace hf := gd_t hc hf
    refine g_aload_n hC 0 dX5_bears_15 rfl rfl ?_
    refine g_get (C := RX5) (T := TX5) (N := 28) (v := .ref aMpage) hC hinX5 0 14 rfl rfl (by decide) (List.mem_of_getElem? (i := 2) rfl) rfl dX5_bears_16 ?_
    refine g_bipush (v := (12 : Int32)) hC dX5_bears_19 cb_12 ?_
    obtain ⟨hg, hf⟩ := gd_ga hf
    refine g_iald hC 3 2 hg rfl rfl dX5_bears_21 ?_
    refine g_iload_n hC 1 dX5_bears_22 rfl rfl ?_
    obtain ⟨z23, hz23, hf⟩ := gd_b hf
    refine g_callSi (wr := [oO aM 4 [.int (0 : Int32), .ref aMtext, .int xM_textSize, .int xM_place, .int xM_walkers, .int xM_light, .int xM_water, .ref aMnerve, .ref aMkind, .int xM_readWalkers, .int xM_readLight, .int xM_readWater, .ref aMreadNerve, .ref aMreadKind, .ref aMpage, .ref aMtrial, .ref aMbook, .int xM_acts, .ref aMkept, .ref aMisKept, .int xM_told, .ref aMtoldMinute, .ref aMtoldHeard, .long xM_seed, .int xM_orderBest, .int xM_orderMany, .ref aMworth, .int xM_turned], oI aMnerve iMnerve 5 xMnerve, oI aMkind iMkind 5 xMkind, oI aMpage iMpage 13 xMpage, oI aMtrial iMtrial 13 xMtrial]) (wn := [oO aM 4 [.int (0 : Int32), .ref aMtext, .int xM_textSize, .int xM_place, .int xM_walkers, .int xM_light, .int xM_water, .ref aMnerve, .ref aMkind, .int xM_readWalkers, .int xM_readLight, .int xM_readWater, .ref aMreadNerve, .ref aMreadKind, .ref aMpage, .ref aMtrial, .ref aMbook, .int xM_acts, .ref aMkept, .ref aMisKept, .int xM_told, .ref aMtoldMinute, .ref aMtoldHeard, .long xM_seed, .int xM_orderBest, .int xM_orderMany, .ref aMworth, .int xM_turned], oI aMnerve iMnerve 5 xMnerve, oI aMkind iMkind 5 xMkind, oI aMpage iMpage 13 xMpage, oI aMtrial iMtrial 13 xMtrial]) hC [.int (xMpage (12 : Int32).toNatClampNeg), .int j1] (cX5_has_m (kl X) (kD X) (xMpage (12 : Int32).toNatClampNeg) j1 z23 hz23) gX5_bears_X5_has rfl kyX5_has rfl [] [0, 1, 2, 3, 4] [] [0, 1, 2, 3, 4] rfl rfl rfl rfl (by decide) rfl rfl rfl ⟨rfl, rfl⟩ ⟨Nat.le_of_ble_eq_true rfl, Nat.le_of_ble_eq_true rfl⟩ (Nat.le_of_ble_eq_true rfl) rfl dX5_bears_23 ?_
    refine g_if_eq (tgt := 32) hC dX5_bears_26 (by decide) (fun hc => ?_) (fun hc => ?_)
    · replace hf := gd_t hc hf
      refine g_aload_n hC 0 dX5_bears_32 rfl rfl ?_
      obtain ⟨z33, hz33, hf⟩ := gd_b hf
      refine g_callVv (wr := [oI aMnerve iMnerve 5 xMnerve, oI aMkind iMkind 5 xMkind]) (wn := [oO aM 4 [.int (0 : Int32), .ref aMtext, .int xM_textSize, .int xM_place, .int xM_walkers, .int xM_light, .int xM_water, .ref aMnerve, .ref aMkind, .int xM_readWalkers, .int xM_readLight, .int xM_readWater, .ref aMreadNerve, .ref aMreadKind, .ref aMpage, .ref aMtrial, .ref aMbook, .int xM_acts, .ref aMkept, .ref aMisKept, .int xM_told, .ref aMtoldMinute, .ref aMtoldHeard, .long xM_seed, .int xM_orderBest, .int xM_orderMany, .ref aMworth, .int xM_turned], oI aMnerve iMnerve 5 xMnerve, oI aMkind iMkind 5 xMkind, oI aMpage iMpage 13 xMpage, oI aMtrial iMtrial 13 z33]) hC [] (cX5_begin_m (kl X) (kD X) aM aMtext aMnerve aMkind aMreadNerve aMreadKind aMpage aMtrial aMbook aMkept aMisKept aMtoldMinute aMtoldHeard aMworth iMpage iMtrial (0 : Int32) xM_textSize xM_place xM_walkers xM_light xM_water xM_readWalkers xM_readLight xM_readWater xM_acts xM_told xM_seed xM_orderBest xM_orderMany xM_turned xMpage xMtrial z33 hz33) gX5_bears_X5_begin rfl kyX5_begin rfl rfl rfl (q0 := 0) rfl [0, 3, 4] [1, 2] [2, 3] [2, 0, 1, 3, 4] rfl rfl rfl rfl (by decide) rfl rfl rfl ⟨rfl, rfl⟩ ⟨Nat.le_of_ble_eq_true rfl, Nat.le_of_ble_eq_true rfl⟩ (Nat.le_of_ble_eq_true rfl) rfl dX5_bears_33 ?_
      refine g_iconst (v := (1 : Int32)) hC dX5_bears_36 ci_1 ?_
      refine g_istore_n (lv' := [(2, .int (1 : Int32)), (0, .ref aM), (1, .int j1)]) hC dX5_bears_37 rfl (by decide) rfl ?_
      refine g_lv (lv' := [(0, .ref aM), (1, .int j1), (2, .int (1 : Int32))]) [1, 2, 0] rfl ?_
      exact t38  fu j1 (1 : Int32) (0 : Int32) xM_turned z33 hf
    · replace hf := gd_f hc hf
      refine g_bipush (v := (-3 : Int32)) hC dX5_bears_29 cb_m3 ?_
      exact hQ ((-3 : Int32), (0 : Int32), xM_turned, xMtrial) _ _ (gd_s hf) dX5_bears_31
  · replace hf := gd_f hc hf
    refine g_iconst (v := (-1 : Int32)) hC dX5_bears_13 ci_m1 ?_
    exact hQ ((-1 : Int32), (0 : Int32), xM_turned, xMtrial) _ _ (gd_s hf) dX5_bears_14
theorem kyX5_ten : yX5_ten.cls ≠ "java/lang/invoke/MethodHandle" ∧ yX5_ten.cls ≠ "java/lang/invoke/VarHandle" ∧ (parseMethodDescriptor yX5_ten.desc).map (fun d => d.parameters.length) = some 1 := by decide +kernel
set_option maxHeartbeats 4000000 in
set_option maxRecDepth 100000 in
theorem cX5_ten_m (l : Launch) (D : va_G)  (j0 : Int32) (z : Int32) (hf : fX5_ten j0 = some z) : ∀ sz : Nat, Met l yX5_ten wsX5_ten ({ frames := 0, cells := 0, slots := 0, locals := 0 } : Room) (kPre D [] [] sz [.int j0]) (kQi D [] [] sz [] z) 0 0 (va_A [] sz) := by
  refine kMet_i (own := RX5) z (fun u => u) (fun u => []) rfl (by decide) rfl ⟨rfl, rfl⟩ (Nat.le_of_ble_eq_true rfl) ?_
  intro X hXl hXD hC hQ
  subst hXl
  subst hXD
  change kG X 0 [(0, .int j0)] [] []
  have t4 : ∀  (n : Nat) (j0 : Int32) (j1 : Int32) (j2 : Int32), lp (fun _ _ _ => none) (fX5_ten_b4_S ) n j0 j1 j2 = some z → kG X 4 [(0, .int j0), (1, .int j1), (2, .int j2)] [] [] := by
    intro  n
    induction n with
    | zero => intro j0 j1 j2 hf; cases hf
    | succ n hk4 =>
      intro j0 j1 j2 hf
      rw [lp_s] at hf
      revert hf hk4
      generalize lp (fun _ _ _ => none) (fX5_ten_b4_S ) n = k4
      intro hk4 hf
      unfold fX5_ten_b4_S at hf
      refine g_iload_n hC 2 dX5_ten_4 rfl rfl ?_
      refine g_iload_n hC 0 dX5_ten_5 rfl rfl ?_
      refine g_icmp_ge (tgt := 20) hC dX5_ten_6 (by decide) (fun hc => ?_) (fun hc => ?_)
      · replace hf := gd_t hc hf
        refine g_iload_n hC 1 dX5_ten_20 rfl rfl ?_
        exact hQ (j1) _ _ (gd_s hf) dX5_ten_21
      · replace hf := gd_f hc hf
        refine g_iload_n hC 1 dX5_ten_9 rfl rfl ?_
        refine g_bipush (v := (10 : Int32)) hC dX5_ten_10 cb_10 ?_
        refine g_imul hC dX5_ten_12 ?_
        refine g_istore_n (lv' := [(1, .int (j1 * (10 : Int32))), (0, .int j0), (2, .int j2)]) hC dX5_ten_13 rfl (by decide) rfl ?_
        refine g_iinc (v := (j2 + (1 : Int32))) (lv' := [(2, .int (j2 + (1 : Int32))), (1, .int (j1 * (10 : Int32))), (0, .int j0)]) hC 2 dX5_ten_14 rfl (ii _ ci_1) (by decide) rfl ?_
        refine g_goto (tgt := 4) hC dX5_ten_17 (by decide) ?_
        refine g_lv (lv' := [(0, .int j0), (1, .int (j1 * (10 : Int32))), (2, .int (j2 + (1 : Int32)))]) [2, 1, 0] rfl ?_
        exact hk4 j0 (j1 * (10 : Int32)) (j2 + (1 : Int32)) hf
  unfold fX5_ten at hf
  refine g_iconst (v := (1 : Int32)) hC dX5_ten_0 ci_1 ?_
  refine g_istore_n (lv' := [(1, .int (1 : Int32)), (0, .int j0)]) hC dX5_ten_1 rfl (by decide) rfl ?_
  refine g_iconst (v := (0 : Int32)) hC dX5_ten_2 ci_0 ?_
  refine g_istore_n (lv' := [(2, .int (0 : Int32)), (1, .int (1 : Int32)), (0, .int j0)]) hC dX5_ten_3 rfl (by decide) rfl ?_
  refine g_lv (lv' := [(0, .int j0), (1, .int (1 : Int32)), (2, .int (0 : Int32))]) [2, 1, 0] rfl ?_
  exact t4  fu j0 (1 : Int32) (0 : Int32) hf
theorem kyX5_still : yX5_still.cls = RX5 ∧ yX5_still.cls ≠ "java/lang/invoke/MethodHandle" ∧ yX5_still.cls ≠ "java/lang/invoke/VarHandle" ∧ (parseMethodDescriptor yX5_still.desc).map (fun d => d.parameters.length) = some 5 := by decide +kernel
set_option maxHeartbeats 4000000 in
set_option maxRecDepth 100000 in
theorem cX5_still_m (l : Launch) (D : va_G) (aM aMtext aMnerve aMkind aMreadNerve aMreadKind aMpage aMtrial aMbook aMkept aMisKept aMtoldMinute aMtoldHeard aMworth : Nat) (xM_thrown : Int32) (xM_textSize : Int32) (xM_place : Int32) (xM_walkers : Int32) (xM_light : Int32) (xM_water : Int32) (xM_readWalkers : Int32) (xM_readLight : Int32) (xM_readWater : Int32) (xM_acts : Int32) (xM_told : Int32) (xM_seed : Int64) (xM_orderBest : Int32) (xM_orderMany : Int32) (xM_turned : Int32) (j1 : Int32) (j2 : Int32) (j3 : Int32) (j4 : Int32) (j5 : Int32) (z : Int32 × Int32) (hf : fX5_still j1 j2 j3 j4 j5 xM_thrown = some z) : ∀ sz : Nat, Met l yX5_still wsX5_still ({ frames := 2, cells := 0, slots := 0, locals := 47 } : Room) (kPre D [] [oO aM 4 [.int xM_thrown, .ref aMtext, .int xM_textSize, .int xM_place, .int xM_walkers, .int xM_light, .int xM_water, .ref aMnerve, .ref aMkind, .int xM_readWalkers, .int xM_readLight, .int xM_readWater, .ref aMreadNerve, .ref aMreadKind, .ref aMpage, .ref aMtrial, .ref aMbook, .int xM_acts, .ref aMkept, .ref aMisKept, .int xM_told, .ref aMtoldMinute, .ref aMtoldHeard, .long xM_seed, .int xM_orderBest, .int xM_orderMany, .ref aMworth, .int xM_turned]] sz [.ref aM, .int j1, .int j2, .int j3, .int j4, .int j5]) (kQi D [] [oO aM 4 [.int xM_thrown, .ref aMtext, .int xM_textSize, .int xM_place, .int xM_walkers, .int xM_light, .int xM_water, .ref aMnerve, .ref aMkind, .int xM_readWalkers, .int xM_readLight, .int xM_readWater, .ref aMreadNerve, .ref aMreadKind, .ref aMpage, .ref aMtrial, .ref aMbook, .int xM_acts, .ref aMkept, .ref aMisKept, .int xM_told, .ref aMtoldMinute, .ref aMtoldHeard, .long xM_seed, .int xM_orderBest, .int xM_orderMany, .ref aMworth, .int xM_turned]] sz [oO aM 4 [.int z.2, .ref aMtext, .int xM_textSize, .int xM_place, .int xM_walkers, .int xM_light, .int xM_water, .ref aMnerve, .ref aMkind, .int xM_readWalkers, .int xM_readLight, .int xM_readWater, .ref aMreadNerve, .ref aMreadKind, .ref aMpage, .ref aMtrial, .ref aMbook, .int xM_acts, .ref aMkept, .ref aMisKept, .int xM_told, .ref aMtoldMinute, .ref aMtoldHeard, .long xM_seed, .int xM_orderBest, .int xM_orderMany, .ref aMworth, .int xM_turned]] z.1) 0 0 (va_A [oO aM 4 [.int xM_thrown, .ref aMtext, .int xM_textSize, .int xM_place, .int xM_walkers, .int xM_light, .int xM_water, .ref aMnerve, .ref aMkind, .int xM_readWalkers, .int xM_readLight, .int xM_readWater, .ref aMreadNerve, .ref aMreadKind, .ref aMpage, .ref aMtrial, .ref aMbook, .int xM_acts, .ref aMkept, .ref aMisKept, .int xM_told, .ref aMtoldMinute, .ref aMtoldHeard, .long xM_seed, .int xM_orderBest, .int xM_orderMany, .ref aMworth, .int xM_turned]] sz) := by
  refine kMet_i (own := RX5) z (fun u => u.1) (fun u => [oO aM 4 [.int u.2, .ref aMtext, .int xM_textSize, .int xM_place, .int xM_walkers, .int xM_light, .int xM_water, .ref aMnerve, .ref aMkind, .int xM_readWalkers, .int xM_readLight, .int xM_readWater, .ref aMreadNerve, .ref aMreadKind, .ref aMpage, .ref aMtrial, .ref aMbook, .int xM_acts, .ref aMkept, .ref aMisKept, .int xM_told, .ref aMtoldMinute, .ref aMtoldHeard, .long xM_seed, .int xM_orderBest, .int xM_orderMany, .ref aMworth, .int xM_turned]]) rfl (by decide) rfl ⟨rfl, rfl⟩ (Nat.le_of_ble_eq_true rfl) ?_
  intro X hXl hXD hC hQ
  subst hXl
  subst hXD
  change kG X 0 [(0, .ref aM), (1, .int j1), (2, .int j2), (3, .int j3), (4, .int j4), (5, .int j5)] [] [oO aM 4 [.int xM_thrown, .ref aMtext, .int xM_textSize, .int xM_place, .int xM_walkers, .int xM_light, .int xM_water, .ref aMnerve, .ref aMkind, .int xM_readWalkers, .int xM_readLight, .int xM_readWater, .ref aMreadNerve, .ref aMreadKind, .ref aMpage, .ref aMtrial, .ref aMbook, .int xM_acts, .ref aMkept, .ref aMisKept, .int xM_told, .ref aMtoldMinute, .ref aMtoldHeard, .long xM_seed, .int xM_orderBest, .int xM_orderMany, .ref aMworth, .int xM_turned]]
  have hinX5 : ∀ w ∈ wsX50, w ∈ wsX5_still := fun _ h => List.mem_cons_of_mem _ (List.mem_append_right _ h)
  have t136 : ∀ (k69 : Int32 → Int32 → Int32 → Int32 → Int32 → Int32 → Int32 → Int32 → Int32 → Option (Int32 × Int32)) (hk69 : ∀ (j1 : Int32) (j2 : Int32) (j3 : Int32) (j4 : Int32) (j5 : Int32) (j6 : Int32) (j7 : Int32) (j8 : Int32) (xM_thrown : Int32), k69 j1 j2 j3 j4 j5 j6 j7 j8 xM_thrown = some z → kG X 69 [(1, .int j1), (2, .int j2), (3, .int j3), (4, .int j4), (5, .int j5), (6, .int j6), (7, .int j7), (8, .int j8)] [] [oO aM 4 [.int xM_thrown, .ref aMtext, .int xM_textSize, .int xM_place, .int xM_walkers, .int xM_light, .int xM_water, .ref aMnerve, .ref aMkind, .int xM_readWalkers, .int xM_readLight, .int xM_readWater, .ref aMreadNerve, .ref aMreadKind, .ref aMpage, .ref aMtrial, .ref aMbook, .int xM_acts, .ref aMkept, .ref aMisKept, .int xM_told, .ref aMtoldMinute, .ref aMtoldHeard, .long xM_seed, .int xM_orderBest, .int xM_orderMany, .ref aMworth, .int xM_turned]]) (j1 : Int32) (j2 : Int32) (j3 : Int32) (j4 : Int32) (j5 : Int32) (j7 : Int32) (j8 : Int32) (y0 : Int32) (y1 : Int32) (y2 : Int32) (xM_thrown : Int32), fX5_still_b136 k69 j1 j2 j3 j4 j5 j7 j8 y0 y1 y2 xM_thrown = some z → kG X 136 [(1, .int j1), (2, .int j2), (3, .int j3), (4, .int j4), (5, .int j5), (7, .int j7), (8, .int j8)] [.int y0, .int y1, .int y2] [oO aM 4 [.int xM_thrown, .ref aMtext, .int xM_textSize, .int xM_place, .int xM_walkers, .int xM_light, .int xM_water, .ref aMnerve, .ref aMkind, .int xM_readWalkers, .int xM_readLight, .int xM_readWater, .ref aMreadNerve, .ref aMreadKind, .ref aMpage, .ref aMtrial, .ref aMbook, .int xM_acts, .ref aMkept, .ref aMisKept, .int xM_told, .ref aMtoldMinute, .ref aMtoldHeard, .long xM_seed, .int xM_orderBest, .int xM_orderMany, .ref aMworth, .int xM_turned]] := by
    intro k69 hk69 j1 j2 j3 j4 j5 j7 j8 y0 y1 y2 xM_thrown hf
    unfold fX5_still_b136 at hf
    refine g_imul hC dX5_still_136 ?_
    refine g_imul hC dX5_still_137 ?_
    refine g_istore (lv' := [(6, .int (y2 * (y1 * y0))), (1, .int j1), (2, .int j2), (3, .int j3), (4, .int j4), (5, .int j5), (7, .int j7), (8, .int j8)]) hC dX5_still_138 (by decide) rfl ?_
    refine g_iinc (v := (j8 + (1 : Int32))) (lv' := [(8, .int (j8 + (1 : Int32))), (6, .int (y2 * (y1 * y0))), (1, .int j1), (2, .int j2), (3, .int j3), (4, .int j4), (5, .int j5), (7, .int j7)]) hC 7 dX5_still_140 rfl (ii _ ci_1) (by decide) rfl ?_
    refine g_goto (tgt := 69) hC dX5_still_143 (by decide) ?_
    refine g_lv (lv' := [(1, .int j1), (2, .int j2), (3, .int j3), (4, .int j4), (5, .int j5), (6, .int (y2 * (y1 * y0))), (7, .int j7), (8, .int (j8 + (1 : Int32)))]) [2, 3, 4, 5, 6, 1, 7, 0] rfl ?_
    exact hk69 j1 j2 j3 j4 j5 (y2 * (y1 * y0)) j7 (j8 + (1 : Int32)) xM_thrown hf
  have t91 : ∀ (k69 : Int32 → Int32 → Int32 → Int32 → Int32 → Int32 → Int32 → Int32 → Int32 → Option (Int32 × Int32)) (hk69 : ∀ (j1 : Int32) (j2 : Int32) (j3 : Int32) (j4 : Int32) (j5 : Int32) (j6 : Int32) (j7 : Int32) (j8 : Int32) (xM_thrown : Int32), k69 j1 j2 j3 j4 j5 j6 j7 j8 xM_thrown = some z → kG X 69 [(1, .int j1), (2, .int j2), (3, .int j3), (4, .int j4), (5, .int j5), (6, .int j6), (7, .int j7), (8, .int j8)] [] [oO aM 4 [.int xM_thrown, .ref aMtext, .int xM_textSize, .int xM_place, .int xM_walkers, .int xM_light, .int xM_water, .ref aMnerve, .ref aMkind, .int xM_readWalkers, .int xM_readLight, .int xM_readWater, .ref aMreadNerve, .ref aMreadKind, .ref aMpage, .ref aMtrial, .ref aMbook, .int xM_acts, .ref aMkept, .ref aMisKept, .int xM_told, .ref aMtoldMinute, .ref aMtoldHeard, .long xM_seed, .int xM_orderBest, .int xM_orderMany, .ref aMworth, .int xM_turned]]) (j1 : Int32) (j2 : Int32) (j3 : Int32) (j4 : Int32) (j5 : Int32) (j6 : Int32) (j7 : Int32) (j8 : Int32) (y0 : Int32) (xM_thrown : Int32), fX5_still_b91 k69 j1 j2 j3 j4 j5 j6 j7 j8 y0 xM_thrown = some z → kG X 91 [(1, .int j1), (2, .int j2), (3, .int j3), (4, .int j4), (5, .int j5), (6, .int j6), (7, .int j7), (8, .int j8)] [.int y0] [oO aM 4 [.int xM_thrown, .ref aMtext, .int xM_textSize, .int xM_place, .int xM_walkers, .int xM_light, .int xM_water, .ref aMnerve, .ref aMkind, .int xM_readWalkers, .int xM_readLight, .int xM_readWater, .ref aMreadNerve, .ref aMreadKind, .ref aMpage, .ref aMtrial, .ref aMbook, .int xM_acts, .ref aMkept, .ref aMisKept, .int xM_told, .ref aMtoldMinute, .ref aMtoldHeard, .long xM_seed, .int xM_orderBest, .int xM_orderMany, .ref aMworth, .int xM_turned]] := by
    intro k69 hk69 j1 j2 j3 j4 j5 j6 j7 j8 y0 xM_thrown hf
    unfold fX5_still_b91 at hf
    refine g_istore (lv' := [(9, .int y0), (1, .int j1), (2, .int j2), (3, .int j3), (4, .int j4), (5, .int j5), (6, .int j6), (7, .int j7), (8, .int j8)]) hC dX5_still_91 (by decide) rfl ?_
    refine g_iload hC 7 dX5_still_93 rfl ?_
    refine g_iload hC 0 dX5_still_95 rfl ?_
    refine g_iconst (v := (2 : Int32)) hC dX5_still_97 ci_2 ?_
    refine g_iload_n hC 1 dX5_still_98 rfl rfl ?_
    refine g_iload hC 8 dX5_still_99 rfl ?_
    refine g_isub hC dX5_still_101 ?_
    refine g_imul hC dX5_still_102 ?_
    refine g_iconst (v := (1 : Int32)) hC dX5_still_103 ci_1 ?_
    refine g_isub hC dX5_still_104 ?_
    obtain ⟨z105, hz105, hf⟩ := gd_b hf
    refine g_callSi (wr := [oO aM 4 [.int xM_thrown, .ref aMtext, .int xM_textSize, .int xM_place, .int xM_walkers, .int xM_light, .int xM_water, .ref aMnerve, .ref aMkind, .int xM_readWalkers, .int xM_readLight, .int xM_readWater, .ref aMreadNerve, .ref aMreadKind, .ref aMpage, .ref aMtrial, .ref aMbook, .int xM_acts, .ref aMkept, .ref aMisKept, .int xM_told, .ref aMtoldMinute, .ref aMtoldHeard, .long xM_seed, .int xM_orderBest, .int xM_orderMany, .ref aMworth, .int xM_turned]]) (wn := [oO aM 4 [.int xM_thrown, .ref aMtext, .int xM_textSize, .int xM_place, .int xM_walkers, .int xM_light, .int xM_water, .ref aMnerve, .ref aMkind, .int xM_readWalkers, .int xM_readLight, .int xM_readWater, .ref aMreadNerve, .ref aMreadKind, .ref aMpage, .ref aMtrial, .ref aMbook, .int xM_acts, .ref aMkept, .ref aMisKept, .int xM_told, .ref aMtoldMinute, .ref aMtoldHeard, .long xM_seed, .int xM_orderBest, .int xM_orderMany, .ref aMworth, .int xM_turned]]) hC [.int (((2 : Int32) * (j1 - j8)) - (1 : Int32))] (cX5_ten_m (kl X) (kD X) (((2 : Int32) * (j1 - j8)) - (1 : Int32)) z105 hz105) gX5_still_X5_ten rfl kyX5_ten rfl [] [0] [] [0] rfl rfl rfl rfl (by decide) rfl rfl rfl ⟨rfl, rfl⟩ ⟨Nat.le_of_ble_eq_true rfl, Nat.le_of_ble_eq_true rfl⟩ (Nat.le_of_ble_eq_true rfl) rfl dX5_still_105 ?_
    refine g_imul hC dX5_still_108 ?_
    refine g_iadd hC dX5_still_109 ?_
    refine g_istore (lv' := [(7, .int (j7 + (y0 * z105))), (9, .int y0), (1, .int j1), (2, .int j2), (3, .int j3), (4, .int j4), (5, .int j5), (6, .int j6), (8, .int j8)]) hC dX5_still_110 (by decide) rfl ?_
    refine g_iload hC 7 dX5_still_112 rfl ?_
    refine g_bipush (v := (10 : Int32)) hC dX5_still_114 cb_10 ?_
    refine g_iload hC 5 dX5_still_116 rfl ?_
    refine g_isub hC dX5_still_118 ?_
    refine g_iload_n hC 3 dX5_still_119 rfl rfl ?_
    refine g_iload hC 8 dX5_still_120 rfl ?_
    obtain ⟨z122, hz122, hf⟩ := gd_b hf
    refine g_callSi (wr := [oO aM 4 [.int xM_thrown, .ref aMtext, .int xM_textSize, .int xM_place, .int xM_walkers, .int xM_light, .int xM_water, .ref aMnerve, .ref aMkind, .int xM_readWalkers, .int xM_readLight, .int xM_readWater, .ref aMreadNerve, .ref aMreadKind, .ref aMpage, .ref aMtrial, .ref aMbook, .int xM_acts, .ref aMkept, .ref aMisKept, .int xM_told, .ref aMtoldMinute, .ref aMtoldHeard, .long xM_seed, .int xM_orderBest, .int xM_orderMany, .ref aMworth, .int xM_turned]]) (wn := [oO aM 4 [.int xM_thrown, .ref aMtext, .int xM_textSize, .int xM_place, .int xM_walkers, .int xM_light, .int xM_water, .ref aMnerve, .ref aMkind, .int xM_readWalkers, .int xM_readLight, .int xM_readWater, .ref aMreadNerve, .ref aMreadKind, .ref aMpage, .ref aMtrial, .ref aMbook, .int xM_acts, .ref aMkept, .ref aMisKept, .int xM_told, .ref aMtoldMinute, .ref aMtoldHeard, .long xM_seed, .int xM_orderBest, .int xM_orderMany, .ref aMworth, .int xM_turned]]) hC [.int j2, .int j8] (cX5_has_m (kl X) (kD X) j2 j8 z122 hz122) gX5_still_X5_has rfl kyX5_has rfl [] [0] [] [0] rfl rfl rfl rfl (by decide) rfl rfl rfl ⟨rfl, rfl⟩ ⟨Nat.le_of_ble_eq_true rfl, Nat.le_of_ble_eq_true rfl⟩ (Nat.le_of_ble_eq_true rfl) rfl dX5_still_122 ?_
    refine g_if_eq (tgt := 132) hC dX5_still_125 (by decide) (fun hc => ?_) (fun hc => ?_)
    · replace hf := gd_t hc hf
      refine g_bipush (v := (10 : Int32)) hC dX5_still_132 cb_10 ?_
      refine g_iload_n hC 4 dX5_still_134 rfl rfl ?_
      refine g_isub hC dX5_still_135 ?_
      refine g_lv (lv' := [(1, .int j1), (2, .int j2), (3, .int j3), (4, .int j4), (5, .int j5), (7, .int (j7 + (y0 * z105))), (8, .int j8)]) [2, 3, 4, 5, 6, 0, 8] rfl ?_
      exact t136 k69 hk69 j1 j2 j3 j4 j5 (j7 + (y0 * z105)) j8 ((10 : Int32) - j3) ((10 : Int32) - j4) j6 xM_thrown hf
    · replace hf := gd_f hc hf
      refine g_iload_n hC 4 dX5_still_128 rfl rfl ?_
      refine g_goto (tgt := 136) hC dX5_still_129 (by decide) ?_
      refine g_lv (lv' := [(1, .int j1), (2, .int j2), (3, .int j3), (4, .int j4), (5, .int j5), (7, .int (j7 + (y0 * z105))), (8, .int j8)]) [2, 3, 4, 5, 6, 0, 8] rfl ?_
      exact t136 k69 hk69 j1 j2 j3 j4 j5 (j7 + (y0 * z105)) j8 j3 ((10 : Int32) - j4) j6 xM_thrown hf
  have t69 : ∀  (n : Nat) (j1 : Int32) (j2 : Int32) (j3 : Int32) (j4 : Int32) (j5 : Int32) (j6 : Int32) (j7 : Int32) (j8 : Int32) (xM_thrown : Int32), lp (fun _ _ _ _ _ _ _ _ _ => none) (fX5_still_b69_S ) n j1 j2 j3 j4 j5 j6 j7 j8 xM_thrown = some z → kG X 69 [(1, .int j1), (2, .int j2), (3, .int j3), (4, .int j4), (5, .int j5), (6, .int j6), (7, .int j7), (8, .int j8)] [] [oO aM 4 [.int xM_thrown, .ref aMtext, .int xM_textSize, .int xM_place, .int xM_walkers, .int xM_light, .int xM_water, .ref aMnerve, .ref aMkind, .int xM_readWalkers, .int xM_readLight, .int xM_readWater, .ref aMreadNerve, .ref aMreadKind, .ref aMpage, .ref aMtrial, .ref aMbook, .int xM_acts, .ref aMkept, .ref aMisKept, .int xM_told, .ref aMtoldMinute, .ref aMtoldHeard, .long xM_seed, .int xM_orderBest, .int xM_orderMany, .ref aMworth, .int xM_turned]] := by
    intro  n
    induction n with
    | zero => intro j1 j2 j3 j4 j5 j6 j7 j8 xM_thrown hf; cases hf
    | succ n hk69 =>
      intro j1 j2 j3 j4 j5 j6 j7 j8 xM_thrown hf
      rw [lp_s] at hf
      revert hf hk69
      generalize lp (fun _ _ _ _ _ _ _ _ _ => none) (fX5_still_b69_S ) n = k69
      intro hk69 hf
      unfold fX5_still_b69_S at hf
      refine g_iload hC 7 dX5_still_69 rfl ?_
      refine g_iload_n hC 0 dX5_still_71 rfl rfl ?_
      refine g_icmp_ge (tgt := 146) hC dX5_still_72 (by decide) (fun hc => ?_) (fun hc => ?_)
      · replace hf := gd_t hc hf
        refine g_iload hC 6 dX5_still_146 rfl ?_
        refine g_iload hC 5 dX5_still_148 rfl ?_
        refine g_iadd hC dX5_still_150 ?_
        refine g_istore (lv' := [(7, .int (j7 + j6)), (1, .int j1), (2, .int j2), (3, .int j3), (4, .int j4), (5, .int j5), (6, .int j6), (8, .int j8)]) hC dX5_still_151 (by decide) rfl ?_
        refine g_iload hC 0 dX5_still_153 rfl ?_
        refine g_if_ne (tgt := 163) hC dX5_still_155 (by decide) (fun hc => ?_) (fun hc => ?_)
        · replace hf := gd_f hc hf
          refine g_iload hC 6 dX5_still_163 rfl ?_
          refine g_iload hC 0 dX5_still_165 rfl ?_
          refine g_iload hC 5 dX5_still_167 rfl ?_
          obtain ⟨z169, hz169, hf⟩ := gd_b hf
          refine g_callSi (wr := [oO aM 4 [.int xM_thrown, .ref aMtext, .int xM_textSize, .int xM_place, .int xM_walkers, .int xM_light, .int xM_water, .ref aMnerve, .ref aMkind, .int xM_readWalkers, .int xM_readLight, .int xM_readWater, .ref aMreadNerve, .ref aMreadKind, .ref aMpage, .ref aMtrial, .ref aMbook, .int xM_acts, .ref aMkept, .ref aMisKept, .int xM_told, .ref aMtoldMinute, .ref aMtoldHeard, .long xM_seed, .int xM_orderBest, .int xM_orderMany, .ref aMworth, .int xM_turned]]) (wn := [oO aM 4 [.int xM_thrown, .ref aMtext, .int xM_textSize, .int xM_place, .int xM_walkers, .int xM_light, .int xM_water, .ref aMnerve, .ref aMkind, .int xM_readWalkers, .int xM_readLight, .int xM_readWater, .ref aMreadNerve, .ref aMreadKind, .ref aMpage, .ref aMtrial, .ref aMbook, .int xM_acts, .ref aMkept, .ref aMisKept, .int xM_told, .ref aMtoldMinute, .ref aMtoldHeard, .long xM_seed, .int xM_orderBest, .int xM_orderMany, .ref aMworth, .int xM_turned]]) hC [.int j6, .int (j7 + j6), .int j5] (cX5_fraction_m (kl X) (kD X) j6 (j7 + j6) j5 z169 hz169) gX5_still_X5_fraction rfl kyX5_fraction rfl [] [0] [] [0] rfl rfl rfl rfl (by decide) rfl rfl rfl ⟨rfl, rfl⟩ ⟨Nat.le_of_ble_eq_true rfl, Nat.le_of_ble_eq_true rfl⟩ (Nat.le_of_ble_eq_true rfl) rfl dX5_still_169 ?_
          exact hQ (z169, xM_thrown) _ _ (gd_s hf) dX5_still_172
        · replace hf := gd_t hc hf
          refine g_bipush (v := (-3 : Int32)) hC dX5_still_158 cb_m3 ?_
          refine g_goto (tgt := 172) hC dX5_still_160 (by decide) ?_
          exact hQ ((-3 : Int32), xM_thrown) _ _ (gd_s hf) dX5_still_172
      · replace hf := gd_f hc hf
        refine g_iload_n hC 1 dX5_still_75 rfl rfl ?_
        refine g_iload hC 7 dX5_still_76 rfl ?_
        refine g_ishr hC dX5_still_78 ?_
        refine g_if_ne (tgt := 90) hC dX5_still_79 (by decide) (fun hc => ?_) (fun hc => ?_)
        · replace hf := gd_f hc hf
          refine g_iconst (v := (0 : Int32)) hC dX5_still_90 ci_0 ?_
          exact t91 k69 hk69 j1 j2 j3 j4 j5 j6 j7 j8 (0 : Int32) xM_thrown hf
        · replace hf := gd_t hc hf
          refine g_iload hC 5 dX5_still_82 rfl ?_
          refine g_iload hC 3 dX5_still_84 rfl ?_
          refine g_imul hC dX5_still_86 ?_
          refine g_goto (tgt := 91) hC dX5_still_87 (by decide) ?_
          exact t91 k69 hk69 j1 j2 j3 j4 j5 j6 j7 j8 (j6 * j4) xM_thrown hf
  unfold fX5_still at hf
  refine g_aload_n hC 0 dX5_still_0 rfl rfl ?_
  refine g_iconst (v := (0 : Int32)) hC dX5_still_1 ci_0 ?_
  refine g_put (C := RX5) (T := TX5) (N := 28) (ty := .int) (ws' := [oO aM 4 [.int (0 : Int32), .ref aMtext, .int xM_textSize, .int xM_place, .int xM_walkers, .int xM_light, .int xM_water, .ref aMnerve, .ref aMkind, .int xM_readWalkers, .int xM_readLight, .int xM_readWater, .ref aMreadNerve, .ref aMreadKind, .ref aMpage, .ref aMtrial, .ref aMbook, .int xM_acts, .ref aMkept, .ref aMisKept, .int xM_told, .ref aMtoldMinute, .ref aMtoldHeard, .long xM_seed, .int xM_orderBest, .int xM_orderMany, .ref aMworth, .int xM_turned]]) hC tyX5_ok nmX5 hinX5 0 0 rfl rfl (by decide) (List.mem_of_getElem? (i := 1) rfl) rfl rfl rfl rfl (Nat.le_of_ble_eq_true rfl) dX5_still_2 rfl ?_
  refine g_iload_n hC 1 dX5_still_5 rfl rfl ?_
  refine g_i2l hC dX5_still_6 ?_
  refine g_lconst (v := (1 : Int64)) hC dX5_still_7 rfl ?_
  refine g_ldc2 (v := (4 : Int64)) hC dX5_still_8 (List.mem_of_getElem? (i := 2) rfl) ?_
  obtain ⟨z11, hz11, hf⟩ := gd_b hf
  refine g_callSi (wr := [oO aM 4 [.int (0 : Int32), .ref aMtext, .int xM_textSize, .int xM_place, .int xM_walkers, .int xM_light, .int xM_water, .ref aMnerve, .ref aMkind, .int xM_readWalkers, .int xM_readLight, .int xM_readWater, .ref aMreadNerve, .ref aMreadKind, .ref aMpage, .ref aMtrial, .ref aMbook, .int xM_acts, .ref aMkept, .ref aMisKept, .int xM_told, .ref aMtoldMinute, .ref aMtoldHeard, .long xM_seed, .int xM_orderBest, .int xM_orderMany, .ref aMworth, .int xM_turned]]) (wn := [oO aM 4 [.int (0 : Int32), .ref aMtext, .int xM_textSize, .int xM_place, .int xM_walkers, .int xM_light, .int xM_water, .ref aMnerve, .ref aMkind, .int xM_readWalkers, .int xM_readLight, .int xM_readWater, .ref aMreadNerve, .ref aMreadKind, .ref aMpage, .ref aMtrial, .ref aMbook, .int xM_acts, .ref aMkept, .ref aMisKept, .int xM_told, .ref aMtoldMinute, .ref aMtoldHeard, .long xM_seed, .int xM_orderBest, .int xM_orderMany, .ref aMworth, .int xM_turned]]) hC [.long j1.toInt64, .long (1 : Int64), .long (4 : Int64)] (cX5_in_m (kl X) (kD X) j1.toInt64 (1 : Int64) (4 : Int64) z11 hz11) gX5_still_X5_in rfl kyX5_in rfl [] [0] [] [0] rfl rfl rfl rfl (by decide) rfl rfl rfl ⟨rfl, rfl⟩ ⟨Nat.le_of_ble_eq_true rfl, Nat.le_of_ble_eq_true rfl⟩ (Nat.le_of_ble_eq_true rfl) rfl dX5_still_11 ?_
  refine g_if_eq (tgt := 57) hC dX5_still_14 (by decide) (fun hc => ?_) (fun hc => ?_)
  · replace hf := gd_t hc hf
    refine g_bipush (v := (-2 : Int32)) hC dX5_still_57 cb_m2 ?_
    exact hQ ((-2 : Int32), (0 : Int32)) _ _ (gd_s hf) dX5_still_59
  · replace hf := gd_f hc hf
    refine g_iload_n hC 2 dX5_still_17 rfl rfl ?_
    refine g_i2l hC dX5_still_18 ?_
    refine g_lconst (v := (0 : Int64)) hC dX5_still_19 rfl ?_
    refine g_iconst (v := (1 : Int32)) hC dX5_still_20 ci_1 ?_
    refine g_iload_n hC 1 dX5_still_21 rfl rfl ?_
    refine g_ishl hC dX5_still_22 ?_
    refine g_iconst (v := (1 : Int32)) hC dX5_still_23 ci_1 ?_
    refine g_isub hC dX5_still_24 ?_
    refine g_i2l hC dX5_still_25 ?_
    obtain ⟨z26, hz26, hf⟩ := gd_b hf
    refine g_callSi (wr := [oO aM 4 [.int (0 : Int32), .ref aMtext, .int xM_textSize, .int xM_place, .int xM_walkers, .int xM_light, .int xM_water, .ref aMnerve, .ref aMkind, .int xM_readWalkers, .int xM_readLight, .int xM_readWater, .ref aMreadNerve, .ref aMreadKind, .ref aMpage, .ref aMtrial, .ref aMbook, .int xM_acts, .ref aMkept, .ref aMisKept, .int xM_told, .ref aMtoldMinute, .ref aMtoldHeard, .long xM_seed, .int xM_orderBest, .int xM_orderMany, .ref aMworth, .int xM_turned]]) (wn := [oO aM 4 [.int (0 : Int32), .ref aMtext, .int xM_textSize, .int xM_place, .int xM_walkers, .int xM_light, .int xM_water, .ref aMnerve, .ref aMkind, .int xM_readWalkers, .int xM_readLight, .int xM_readWater, .ref aMreadNerve, .ref aMreadKind, .ref aMpage, .ref aMtrial, .ref aMbook, .int xM_acts, .ref aMkept, .ref aMisKept, .int xM_told, .ref aMtoldMinute, .ref aMtoldHeard, .long xM_seed, .int xM_orderBest, .int xM_orderMany, .ref aMworth, .int xM_turned]]) hC [.long j2.toInt64, .long (0 : Int64), .long (((1 : Int32) <<< (j1 &&& 31)) - (1 : Int32)).toInt64] (cX5_in_m (kl X) (kD X) j2.toInt64 (0 : Int64) ((((1 : Int32) <<< (j1 &&& 31)) - (1 : Int32)).toInt64) z26 hz26) gX5_still_X5_in rfl kyX5_in rfl [] [0] [] [0] rfl rfl rfl rfl (by decide) rfl rfl rfl ⟨rfl, rfl⟩ ⟨Nat.le_of_ble_eq_true rfl, Nat.le_of_ble_eq_true rfl⟩ (Nat.le_of_ble_eq_true rfl) rfl dX5_still_26 ?_
    refine g_if_eq (tgt := 57) hC dX5_still_29 (by decide) (fun hc => ?_) (fun hc => ?_)
    · replace hf := gd_t hc hf
      refine g_bipush (v := (-2 : Int32)) hC dX5_still_57 cb_m2 ?_
      exact hQ ((-2 : Int32), (0 : Int32)) _ _ (gd_s hf) dX5_still_59
    · replace hf := gd_f hc hf
      refine g_iload_n hC 3 dX5_still_32 rfl rfl ?_
      refine g_i2l hC dX5_still_33 ?_
      refine g_lconst (v := (0 : Int64)) hC dX5_still_34 rfl ?_
      refine g_ldc2 (v := (10 : Int64)) hC dX5_still_35 (List.mem_of_getElem? (i := 3) rfl) ?_
      obtain ⟨z38, hz38, hf⟩ := gd_b hf
      refine g_callSi (wr := [oO aM 4 [.int (0 : Int32), .ref aMtext, .int xM_textSize, .int xM_place, .int xM_walkers, .int xM_light, .int xM_water, .ref aMnerve, .ref aMkind, .int xM_readWalkers, .int xM_readLight, .int xM_readWater, .ref aMreadNerve, .ref aMreadKind, .ref aMpage, .ref aMtrial, .ref aMbook, .int xM_acts, .ref aMkept, .ref aMisKept, .int xM_told, .ref aMtoldMinute, .ref aMtoldHeard, .long xM_seed, .int xM_orderBest, .int xM_orderMany, .ref aMworth, .int xM_turned]]) (wn := [oO aM 4 [.int (0 : Int32), .ref aMtext, .int xM_textSize, .int xM_place, .int xM_walkers, .int xM_light, .int xM_water, .ref aMnerve, .ref aMkind, .int xM_readWalkers, .int xM_readLight, .int xM_readWater, .ref aMreadNerve, .ref aMreadKind, .ref aMpage, .ref aMtrial, .ref aMbook, .int xM_acts, .ref aMkept, .ref aMisKept, .int xM_told, .ref aMtoldMinute, .ref aMtoldHeard, .long xM_seed, .int xM_orderBest, .int xM_orderMany, .ref aMworth, .int xM_turned]]) hC [.long j3.toInt64, .long (0 : Int64), .long (10 : Int64)] (cX5_in_m (kl X) (kD X) j3.toInt64 (0 : Int64) (10 : Int64) z38 hz38) gX5_still_X5_in rfl kyX5_in rfl [] [0] [] [0] rfl rfl rfl rfl (by decide) rfl rfl rfl ⟨rfl, rfl⟩ ⟨Nat.le_of_ble_eq_true rfl, Nat.le_of_ble_eq_true rfl⟩ (Nat.le_of_ble_eq_true rfl) rfl dX5_still_38 ?_
      refine g_if_eq (tgt := 57) hC dX5_still_41 (by decide) (fun hc => ?_) (fun hc => ?_)
      · replace hf := gd_t hc hf
        refine g_bipush (v := (-2 : Int32)) hC dX5_still_57 cb_m2 ?_
        exact hQ ((-2 : Int32), (0 : Int32)) _ _ (gd_s hf) dX5_still_59
      · replace hf := gd_f hc hf
        refine g_iload hC 4 dX5_still_44 rfl ?_
        refine g_i2l hC dX5_still_46 ?_
        refine g_lconst (v := (0 : Int64)) hC dX5_still_47 rfl ?_
        refine g_ldc2 (v := (10 : Int64)) hC dX5_still_48 (List.mem_of_getElem? (i := 3) rfl) ?_
        obtain ⟨z51, hz51, hf⟩ := gd_b hf
        refine g_callSi (wr := [oO aM 4 [.int (0 : Int32), .ref aMtext, .int xM_textSize, .int xM_place, .int xM_walkers, .int xM_light, .int xM_water, .ref aMnerve, .ref aMkind, .int xM_readWalkers, .int xM_readLight, .int xM_readWater, .ref aMreadNerve, .ref aMreadKind, .ref aMpage, .ref aMtrial, .ref aMbook, .int xM_acts, .ref aMkept, .ref aMisKept, .int xM_told, .ref aMtoldMinute, .ref aMtoldHeard, .long xM_seed, .int xM_orderBest, .int xM_orderMany, .ref aMworth, .int xM_turned]]) (wn := [oO aM 4 [.int (0 : Int32), .ref aMtext, .int xM_textSize, .int xM_place, .int xM_walkers, .int xM_light, .int xM_water, .ref aMnerve, .ref aMkind, .int xM_readWalkers, .int xM_readLight, .int xM_readWater, .ref aMreadNerve, .ref aMreadKind, .ref aMpage, .ref aMtrial, .ref aMbook, .int xM_acts, .ref aMkept, .ref aMisKept, .int xM_told, .ref aMtoldMinute, .ref aMtoldHeard, .long xM_seed, .int xM_orderBest, .int xM_orderMany, .ref aMworth, .int xM_turned]]) hC [.long j4.toInt64, .long (0 : Int64), .long (10 : Int64)] (cX5_in_m (kl X) (kD X) j4.toInt64 (0 : Int64) (10 : Int64) z51 hz51) gX5_still_X5_in rfl kyX5_in rfl [] [0] [] [0] rfl rfl rfl rfl (by decide) rfl rfl rfl ⟨rfl, rfl⟩ ⟨Nat.le_of_ble_eq_true rfl, Nat.le_of_ble_eq_true rfl⟩ (Nat.le_of_ble_eq_true rfl) rfl dX5_still_51 ?_
        refine g_if_ne (tgt := 60) hC dX5_still_54 (by decide) (fun hc => ?_) (fun hc => ?_)
        · replace hf := gd_f hc hf
          refine g_iconst (v := (1 : Int32)) hC dX5_still_60 ci_1 ?_
          refine g_istore (lv' := [(6, .int (1 : Int32)), (0, .ref aM), (1, .int j1), (2, .int j2), (3, .int j3), (4, .int j4), (5, .int j5)]) hC dX5_still_61 (by decide) rfl ?_
          refine g_iconst (v := (0 : Int32)) hC dX5_still_63 ci_0 ?_
          refine g_istore (lv' := [(7, .int (0 : Int32)), (6, .int (1 : Int32)), (0, .ref aM), (1, .int j1), (2, .int j2), (3, .int j3), (4, .int j4), (5, .int j5)]) hC dX5_still_64 (by decide) rfl ?_
          refine g_iconst (v := (0 : Int32)) hC dX5_still_66 ci_0 ?_
          refine g_istore (lv' := [(8, .int (0 : Int32)), (7, .int (0 : Int32)), (6, .int (1 : Int32)), (0, .ref aM), (1, .int j1), (2, .int j2), (3, .int j3), (4, .int j4), (5, .int j5)]) hC dX5_still_67 (by decide) rfl ?_
          refine g_lv (lv' := [(1, .int j1), (2, .int j2), (3, .int j3), (4, .int j4), (5, .int j5), (6, .int (1 : Int32)), (7, .int (0 : Int32)), (8, .int (0 : Int32))]) [4, 5, 6, 7, 8, 2, 1, 0] rfl ?_
          exact t69  fu j1 j2 j3 j4 j5 (1 : Int32) (0 : Int32) (0 : Int32) (0 : Int32) hf
        · replace hf := gd_t hc hf
          refine g_bipush (v := (-2 : Int32)) hC dX5_still_57 cb_m2 ?_
          exact hQ ((-2 : Int32), (0 : Int32)) _ _ (gd_s hf) dX5_still_59
theorem kyX5_pebbles : yX5_pebbles.cls = RX5 ∧ yX5_pebbles.cls ≠ "java/lang/invoke/MethodHandle" ∧ yX5_pebbles.cls ≠ "java/lang/invoke/VarHandle" ∧ (parseMethodDescriptor yX5_pebbles.desc).map (fun d => d.parameters.length) = some 3 := by decide +kernel
set_option maxHeartbeats 4000000 in
set_option maxRecDepth 100000 in
theorem cX5_pebbles_m (l : Launch) (D : va_G) (aM aMtext aMnerve aMkind aMreadNerve aMreadKind aMpage aMtrial aMbook aMkept aMisKept aMtoldMinute aMtoldHeard aMworth : Nat) (xM_thrown : Int32) (xM_textSize : Int32) (xM_place : Int32) (xM_walkers : Int32) (xM_light : Int32) (xM_water : Int32) (xM_readWalkers : Int32) (xM_readLight : Int32) (xM_readWater : Int32) (xM_acts : Int32) (xM_told : Int32) (xM_seed : Int64) (xM_orderBest : Int32) (xM_orderMany : Int32) (xM_turned : Int32) (j1 : Int32) (j2 : Int32) (j3 : Int32) (z : Int32 × Int32) (hf : fX5_pebbles j1 j2 j3 xM_thrown = some z) : ∀ sz : Nat, Met l yX5_pebbles wsX5_pebbles ({ frames := 1, cells := 0, slots := 0, locals := 25 } : Room) (kPre D [] [oO aM 4 [.int xM_thrown, .ref aMtext, .int xM_textSize, .int xM_place, .int xM_walkers, .int xM_light, .int xM_water, .ref aMnerve, .ref aMkind, .int xM_readWalkers, .int xM_readLight, .int xM_readWater, .ref aMreadNerve, .ref aMreadKind, .ref aMpage, .ref aMtrial, .ref aMbook, .int xM_acts, .ref aMkept, .ref aMisKept, .int xM_told, .ref aMtoldMinute, .ref aMtoldHeard, .long xM_seed, .int xM_orderBest, .int xM_orderMany, .ref aMworth, .int xM_turned]] sz [.ref aM, .int j1, .int j2, .int j3]) (kQi D [] [oO aM 4 [.int xM_thrown, .ref aMtext, .int xM_textSize, .int xM_place, .int xM_walkers, .int xM_light, .int xM_water, .ref aMnerve, .ref aMkind, .int xM_readWalkers, .int xM_readLight, .int xM_readWater, .ref aMreadNerve, .ref aMreadKind, .ref aMpage, .ref aMtrial, .ref aMbook, .int xM_acts, .ref aMkept, .ref aMisKept, .int xM_told, .ref aMtoldMinute, .ref aMtoldHeard, .long xM_seed, .int xM_orderBest, .int xM_orderMany, .ref aMworth, .int xM_turned]] sz [oO aM 4 [.int z.2, .ref aMtext, .int xM_textSize, .int xM_place, .int xM_walkers, .int xM_light, .int xM_water, .ref aMnerve, .ref aMkind, .int xM_readWalkers, .int xM_readLight, .int xM_readWater, .ref aMreadNerve, .ref aMreadKind, .ref aMpage, .ref aMtrial, .ref aMbook, .int xM_acts, .ref aMkept, .ref aMisKept, .int xM_told, .ref aMtoldMinute, .ref aMtoldHeard, .long xM_seed, .int xM_orderBest, .int xM_orderMany, .ref aMworth, .int xM_turned]] z.1) 0 0 (va_A [oO aM 4 [.int xM_thrown, .ref aMtext, .int xM_textSize, .int xM_place, .int xM_walkers, .int xM_light, .int xM_water, .ref aMnerve, .ref aMkind, .int xM_readWalkers, .int xM_readLight, .int xM_readWater, .ref aMreadNerve, .ref aMreadKind, .ref aMpage, .ref aMtrial, .ref aMbook, .int xM_acts, .ref aMkept, .ref aMisKept, .int xM_told, .ref aMtoldMinute, .ref aMtoldHeard, .long xM_seed, .int xM_orderBest, .int xM_orderMany, .ref aMworth, .int xM_turned]] sz) := by
  refine kMet_i (own := RX5) z (fun u => u.1) (fun u => [oO aM 4 [.int u.2, .ref aMtext, .int xM_textSize, .int xM_place, .int xM_walkers, .int xM_light, .int xM_water, .ref aMnerve, .ref aMkind, .int xM_readWalkers, .int xM_readLight, .int xM_readWater, .ref aMreadNerve, .ref aMreadKind, .ref aMpage, .ref aMtrial, .ref aMbook, .int xM_acts, .ref aMkept, .ref aMisKept, .int xM_told, .ref aMtoldMinute, .ref aMtoldHeard, .long xM_seed, .int xM_orderBest, .int xM_orderMany, .ref aMworth, .int xM_turned]]) rfl (by decide) rfl ⟨rfl, rfl⟩ (Nat.le_of_ble_eq_true rfl) ?_
  intro X hXl hXD hC hQ
  subst hXl
  subst hXD
  change kG X 0 [(0, .ref aM), (1, .int j1), (2, .int j2), (3, .int j3)] [] [oO aM 4 [.int xM_thrown, .ref aMtext, .int xM_textSize, .int xM_place, .int xM_walkers, .int xM_light, .int xM_water, .ref aMnerve, .ref aMkind, .int xM_readWalkers, .int xM_readLight, .int xM_readWater, .ref aMreadNerve, .ref aMreadKind, .ref aMpage, .ref aMtrial, .ref aMbook, .int xM_acts, .ref aMkept, .ref aMisKept, .int xM_told, .ref aMtoldMinute, .ref aMtoldHeard, .long xM_seed, .int xM_orderBest, .int xM_orderMany, .ref aMworth, .int xM_turned]]
  have hinX5 : ∀ w ∈ wsX50, w ∈ wsX5_pebbles := fun _ h => List.mem_cons_of_mem _ (List.mem_append_right _ h)
  have t60 : ∀  (n : Nat) (j1 : Int32) (j2 : Int32) (j4 : Int32) (j5 : Int32) (xM_thrown : Int32), lp (fun _ _ _ _ _ => none) (fX5_pebbles_b60_S ) n j1 j2 j4 j5 xM_thrown = some z → kG X 60 [(1, .int j1), (2, .int j2), (4, .int j4), (5, .int j5)] [] [oO aM 4 [.int xM_thrown, .ref aMtext, .int xM_textSize, .int xM_place, .int xM_walkers, .int xM_light, .int xM_water, .ref aMnerve, .ref aMkind, .int xM_readWalkers, .int xM_readLight, .int xM_readWater, .ref aMreadNerve, .ref aMreadKind, .ref aMpage, .ref aMtrial, .ref aMbook, .int xM_acts, .ref aMkept, .ref aMisKept, .int xM_told, .ref aMtoldMinute, .ref aMtoldHeard, .long xM_seed, .int xM_orderBest, .int xM_orderMany, .ref aMworth, .int xM_turned]] := by
    intro  n
    induction n with
    | zero => intro j1 j2 j4 j5 xM_thrown hf; cases hf
    | succ n hk60 =>
      intro j1 j2 j4 j5 xM_thrown hf
      rw [lp_s] at hf
      revert hf hk60
      generalize lp (fun _ _ _ _ _ => none) (fX5_pebbles_b60_S ) n = k60
      intro hk60 hf
      unfold fX5_pebbles_b60_S at hf
      refine g_iload hC 3 dX5_pebbles_60 rfl ?_
      refine g_iload_n hC 1 dX5_pebbles_62 rfl rfl ?_
      refine g_iconst (v := (1 : Int32)) hC dX5_pebbles_63 ci_1 ?_
      refine g_iadd hC dX5_pebbles_64 ?_
      refine g_icmp_ge (tgt := 80) hC dX5_pebbles_65 (by decide) (fun hc => ?_) (fun hc => ?_)
      · replace hf := gd_t hc hf
        refine g_iload hC 2 dX5_pebbles_80 rfl ?_
        exact hQ (j4, xM_thrown) _ _ (gd_s hf) dX5_pebbles_82
      · replace hf := gd_f hc hf
        refine g_iinc (v := (j4 + (1 : Int32))) (lv' := [(4, .int (j4 + (1 : Int32))), (1, .int j1), (2, .int j2), (5, .int j5)]) hC 2 dX5_pebbles_68 rfl (ii _ ci_1) (by decide) rfl ?_
        refine g_iload hC 3 dX5_pebbles_71 rfl ?_
        refine g_iload_n hC 1 dX5_pebbles_73 rfl rfl ?_
        refine g_imul hC dX5_pebbles_74 ?_
        refine g_istore (lv' := [(5, .int (j5 * j1)), (4, .int (j4 + (1 : Int32))), (1, .int j1), (2, .int j2)]) hC dX5_pebbles_75 (by decide) rfl ?_
        refine g_goto (tgt := 60) hC dX5_pebbles_77 (by decide) ?_
        refine g_lv (lv' := [(1, .int j1), (2, .int j2), (4, .int (j4 + (1 : Int32))), (5, .int (j5 * j1))]) [2, 3, 1, 0] rfl ?_
        exact hk60 j1 j2 (j4 + (1 : Int32)) (j5 * j1) xM_thrown hf
  have t55 : ∀  (j1 : Int32) (j2 : Int32) (y0 : Int32) (xM_thrown : Int32), fX5_pebbles_b55  j1 j2 y0 xM_thrown = some z → kG X 55 [(1, .int j1), (2, .int j2)] [.int y0] [oO aM 4 [.int xM_thrown, .ref aMtext, .int xM_textSize, .int xM_place, .int xM_walkers, .int xM_light, .int xM_water, .ref aMnerve, .ref aMkind, .int xM_readWalkers, .int xM_readLight, .int xM_readWater, .ref aMreadNerve, .ref aMreadKind, .ref aMpage, .ref aMtrial, .ref aMbook, .int xM_acts, .ref aMkept, .ref aMisKept, .int xM_told, .ref aMtoldMinute, .ref aMtoldHeard, .long xM_seed, .int xM_orderBest, .int xM_orderMany, .ref aMworth, .int xM_turned]] := by
    intro j1 j2 y0 xM_thrown hf
    unfold fX5_pebbles_b55 at hf
    refine g_istore (lv' := [(4, .int y0), (1, .int j1), (2, .int j2)]) hC dX5_pebbles_55 (by decide) rfl ?_
    refine g_iconst (v := (1 : Int32)) hC dX5_pebbles_57 ci_1 ?_
    refine g_istore (lv' := [(5, .int (1 : Int32)), (4, .int y0), (1, .int j1), (2, .int j2)]) hC dX5_pebbles_58 (by decide) rfl ?_
    refine g_lv (lv' := [(1, .int j1), (2, .int j2), (4, .int y0), (5, .int (1 : Int32))]) [2, 3, 1, 0] rfl ?_
    exact t60  fu j1 j2 y0 (1 : Int32) xM_thrown hf
  unfold fX5_pebbles at hf
  refine g_aload_n hC 0 dX5_pebbles_0 rfl rfl ?_
  refine g_iconst (v := (0 : Int32)) hC dX5_pebbles_1 ci_0 ?_
  refine g_put (C := RX5) (T := TX5) (N := 28) (ty := .int) (ws' := [oO aM 4 [.int (0 : Int32), .ref aMtext, .int xM_textSize, .int xM_place, .int xM_walkers, .int xM_light, .int xM_water, .ref aMnerve, .ref aMkind, .int xM_readWalkers, .int xM_readLight, .int xM_readWater, .ref aMreadNerve, .ref aMreadKind, .ref aMpage, .ref aMtrial, .ref aMbook, .int xM_acts, .ref aMkept, .ref aMisKept, .int xM_told, .ref aMtoldMinute, .ref aMtoldHeard, .long xM_seed, .int xM_orderBest, .int xM_orderMany, .ref aMworth, .int xM_turned]]) hC tyX5_ok nmX5 hinX5 0 0 rfl rfl (by decide) (List.mem_of_getElem? (i := 1) rfl) rfl rfl rfl rfl (Nat.le_of_ble_eq_true rfl) dX5_pebbles_2 rfl ?_
  refine g_iload_n hC 1 dX5_pebbles_5 rfl rfl ?_
  refine g_i2l hC dX5_pebbles_6 ?_
  refine g_lconst (v := (1 : Int64)) hC dX5_pebbles_7 rfl ?_
  refine g_ldc2 (v := (5 : Int64)) hC dX5_pebbles_8 (List.mem_of_getElem? (i := 2) rfl) ?_
  obtain ⟨z11, hz11, hf⟩ := gd_b hf
  refine g_callSi (wr := [oO aM 4 [.int (0 : Int32), .ref aMtext, .int xM_textSize, .int xM_place, .int xM_walkers, .int xM_light, .int xM_water, .ref aMnerve, .ref aMkind, .int xM_readWalkers, .int xM_readLight, .int xM_readWater, .ref aMreadNerve, .ref aMreadKind, .ref aMpage, .ref aMtrial, .ref aMbook, .int xM_acts, .ref aMkept, .ref aMisKept, .int xM_told, .ref aMtoldMinute, .ref aMtoldHeard, .long xM_seed, .int xM_orderBest, .int xM_orderMany, .ref aMworth, .int xM_turned]]) (wn := [oO aM 4 [.int (0 : Int32), .ref aMtext, .int xM_textSize, .int xM_place, .int xM_walkers, .int xM_light, .int xM_water, .ref aMnerve, .ref aMkind, .int xM_readWalkers, .int xM_readLight, .int xM_readWater, .ref aMreadNerve, .ref aMreadKind, .ref aMpage, .ref aMtrial, .ref aMbook, .int xM_acts, .ref aMkept, .ref aMisKept, .int xM_told, .ref aMtoldMinute, .ref aMtoldHeard, .long xM_seed, .int xM_orderBest, .int xM_orderMany, .ref aMworth, .int xM_turned]]) hC [.long j1.toInt64, .long (1 : Int64), .long (5 : Int64)] (cX5_in_m (kl X) (kD X) j1.toInt64 (1 : Int64) (5 : Int64) z11 hz11) gX5_pebbles_X5_in rfl kyX5_in rfl [] [0] [] [0] rfl rfl rfl rfl (by decide) rfl rfl rfl ⟨rfl, rfl⟩ ⟨Nat.le_of_ble_eq_true rfl, Nat.le_of_ble_eq_true rfl⟩ (Nat.le_of_ble_eq_true rfl) rfl dX5_pebbles_11 ?_
  refine g_if_eq (tgt := 29) hC dX5_pebbles_14 (by decide) (fun hc => ?_) (fun hc => ?_)
  · replace hf := gd_t hc hf
    refine g_bipush (v := (-2 : Int32)) hC dX5_pebbles_29 cb_m2 ?_
    exact hQ ((-2 : Int32), (0 : Int32)) _ _ (gd_s hf) dX5_pebbles_31
  · replace hf := gd_f hc hf
    refine g_iload_n hC 2 dX5_pebbles_17 rfl rfl ?_
    refine g_i2l hC dX5_pebbles_18 ?_
    refine g_lconst (v := (0 : Int64)) hC dX5_pebbles_19 rfl ?_
    refine g_ldc2 (v := (50 : Int64)) hC dX5_pebbles_20 (List.mem_of_getElem? (i := 3) rfl) ?_
    obtain ⟨z23, hz23, hf⟩ := gd_b hf
    refine g_callSi (wr := [oO aM 4 [.int (0 : Int32), .ref aMtext, .int xM_textSize, .int xM_place, .int xM_walkers, .int xM_light, .int xM_water, .ref aMnerve, .ref aMkind, .int xM_readWalkers, .int xM_readLight, .int xM_readWater, .ref aMreadNerve, .ref aMreadKind, .ref aMpage, .ref aMtrial, .ref aMbook, .int xM_acts, .ref aMkept, .ref aMisKept, .int xM_told, .ref aMtoldMinute, .ref aMtoldHeard, .long xM_seed, .int xM_orderBest, .int xM_orderMany, .ref aMworth, .int xM_turned]]) (wn := [oO aM 4 [.int (0 : Int32), .ref aMtext, .int xM_textSize, .int xM_place, .int xM_walkers, .int xM_light, .int xM_water, .ref aMnerve, .ref aMkind, .int xM_readWalkers, .int xM_readLight, .int xM_readWater, .ref aMreadNerve, .ref aMreadKind, .ref aMpage, .ref aMtrial, .ref aMbook, .int xM_acts, .ref aMkept, .ref aMisKept, .int xM_told, .ref aMtoldMinute, .ref aMtoldHeard, .long xM_seed, .int xM_orderBest, .int xM_orderMany, .ref aMworth, .int xM_turned]]) hC [.long j2.toInt64, .long (0 : Int64), .long (50 : Int64)] (cX5_in_m (kl X) (kD X) j2.toInt64 (0 : Int64) (50 : Int64) z23 hz23) gX5_pebbles_X5_in rfl kyX5_in rfl [] [0] [] [0] rfl rfl rfl rfl (by decide) rfl rfl rfl ⟨rfl, rfl⟩ ⟨Nat.le_of_ble_eq_true rfl, Nat.le_of_ble_eq_true rfl⟩ (Nat.le_of_ble_eq_true rfl) rfl dX5_pebbles_23 ?_
    refine g_if_ne (tgt := 32) hC dX5_pebbles_26 (by decide) (fun hc => ?_) (fun hc => ?_)
    · replace hf := gd_f hc hf
      refine g_iload_n hC 2 dX5_pebbles_32 rfl rfl ?_
      refine g_if_ne (tgt := 38) hC dX5_pebbles_33 (by decide) (fun hc => ?_) (fun hc => ?_)
      · replace hf := gd_f hc hf
        refine g_iload_n hC 1 dX5_pebbles_38 rfl rfl ?_
        refine g_iconst (v := (1 : Int32)) hC dX5_pebbles_39 ci_1 ?_
        refine g_icmp_ne (tgt := 46) hC dX5_pebbles_40 (by decide) (fun hc => ?_) (fun hc => ?_)
        · replace hf := gd_f hc hf
          refine g_iload_n hC 3 dX5_pebbles_46 rfl rfl ?_
          refine g_if_eq (tgt := 54) hC dX5_pebbles_47 (by decide) (fun hc => ?_) (fun hc => ?_)
          · replace hf := gd_t hc hf
            refine g_iconst (v := (0 : Int32)) hC dX5_pebbles_54 ci_0 ?_
            refine g_lv (lv' := [(1, .int j1), (2, .int j2)]) [1, 2] rfl ?_
            exact t55  j1 j2 (0 : Int32) (0 : Int32) hf
          · replace hf := gd_f hc hf
            refine g_iconst (v := (1 : Int32)) hC dX5_pebbles_50 ci_1 ?_
            refine g_goto (tgt := 55) hC dX5_pebbles_51 (by decide) ?_
            refine g_lv (lv' := [(1, .int j1), (2, .int j2)]) [1, 2] rfl ?_
            exact t55  j1 j2 (1 : Int32) (0 : Int32) hf
        · replace hf := gd_t hc hf
          refine g_bipush (v := (-9 : Int32)) hC dX5_pebbles_43 cb_m9 ?_
          exact hQ ((-9 : Int32), (0 : Int32)) _ _ (gd_s hf) dX5_pebbles_45
      · replace hf := gd_t hc hf
        refine g_iconst (v := (0 : Int32)) hC dX5_pebbles_36 ci_0 ?_
        exact hQ ((0 : Int32), (0 : Int32)) _ _ (gd_s hf) dX5_pebbles_37
    · replace hf := gd_t hc hf
      refine g_bipush (v := (-2 : Int32)) hC dX5_pebbles_29 cb_m2 ?_
      exact hQ ((-2 : Int32), (0 : Int32)) _ _ (gd_s hf) dX5_pebbles_31
theorem kyX5_tell : yX5_tell.cls = RX5 ∧ yX5_tell.cls ≠ "java/lang/invoke/MethodHandle" ∧ yX5_tell.cls ≠ "java/lang/invoke/VarHandle" ∧ (parseMethodDescriptor yX5_tell.desc).map (fun d => d.parameters.length) = some 2 := by decide +kernel
set_option maxHeartbeats 4000000 in
set_option maxRecDepth 100000 in
theorem cX5_tell_m (l : Launch) (D : va_G) (aM aMtext aMnerve aMkind aMreadNerve aMreadKind aMpage aMtrial aMbook aMkept aMisKept aMtoldMinute aMtoldHeard aMworth : Nat) (iMtoldMinute iMtoldHeard : ClassId) (xM_thrown : Int32) (xM_textSize : Int32) (xM_place : Int32) (xM_walkers : Int32) (xM_light : Int32) (xM_water : Int32) (xM_readWalkers : Int32) (xM_readLight : Int32) (xM_readWater : Int32) (xM_acts : Int32) (xM_told : Int32) (xM_seed : Int64) (xM_orderBest : Int32) (xM_orderMany : Int32) (xM_turned : Int32) (xMtoldMinute : Nat → Int32) (xMtoldHeard : Nat → Int32) (j1 : Int32) (j2 : Int32) (z : Int32 × Int32 × Int32 × (Nat → Int32) × (Nat → Int32)) (hf : fX5_tell j1 j2 xM_thrown xM_told xMtoldMinute xMtoldHeard = some z) : ∀ sz : Nat, Met l yX5_tell wsX5_tell ({ frames := 1, cells := 0, slots := 0, locals := 25 } : Room) (kPre D [(iMtoldMinute, .int), (iMtoldHeard, .boolean)] [oO aM 4 [.int xM_thrown, .ref aMtext, .int xM_textSize, .int xM_place, .int xM_walkers, .int xM_light, .int xM_water, .ref aMnerve, .ref aMkind, .int xM_readWalkers, .int xM_readLight, .int xM_readWater, .ref aMreadNerve, .ref aMreadKind, .ref aMpage, .ref aMtrial, .ref aMbook, .int xM_acts, .ref aMkept, .ref aMisKept, .int xM_told, .ref aMtoldMinute, .ref aMtoldHeard, .long xM_seed, .int xM_orderBest, .int xM_orderMany, .ref aMworth, .int xM_turned], oI aMtoldMinute iMtoldMinute 6 xMtoldMinute, oI aMtoldHeard iMtoldHeard 6 xMtoldHeard] sz [.ref aM, .int j1, .int j2]) (kQi D [(iMtoldMinute, .int), (iMtoldHeard, .boolean)] [oO aM 4 [.int xM_thrown, .ref aMtext, .int xM_textSize, .int xM_place, .int xM_walkers, .int xM_light, .int xM_water, .ref aMnerve, .ref aMkind, .int xM_readWalkers, .int xM_readLight, .int xM_readWater, .ref aMreadNerve, .ref aMreadKind, .ref aMpage, .ref aMtrial, .ref aMbook, .int xM_acts, .ref aMkept, .ref aMisKept, .int xM_told, .ref aMtoldMinute, .ref aMtoldHeard, .long xM_seed, .int xM_orderBest, .int xM_orderMany, .ref aMworth, .int xM_turned], oI aMtoldMinute iMtoldMinute 6 xMtoldMinute, oI aMtoldHeard iMtoldHeard 6 xMtoldHeard] sz [oO aM 4 [.int z.2.1, .ref aMtext, .int xM_textSize, .int xM_place, .int xM_walkers, .int xM_light, .int xM_water, .ref aMnerve, .ref aMkind, .int xM_readWalkers, .int xM_readLight, .int xM_readWater, .ref aMreadNerve, .ref aMreadKind, .ref aMpage, .ref aMtrial, .ref aMbook, .int xM_acts, .ref aMkept, .ref aMisKept, .int z.2.2.1, .ref aMtoldMinute, .ref aMtoldHeard, .long xM_seed, .int xM_orderBest, .int xM_orderMany, .ref aMworth, .int xM_turned], oI aMtoldMinute iMtoldMinute 6 z.2.2.2.1, oI aMtoldHeard iMtoldHeard 6 z.2.2.2.2] z.1) 0 0 (va_A [oO aM 4 [.int xM_thrown, .ref aMtext, .int xM_textSize, .int xM_place, .int xM_walkers, .int xM_light, .int xM_water, .ref aMnerve, .ref aMkind, .int xM_readWalkers, .int xM_readLight, .int xM_readWater, .ref aMreadNerve, .ref aMreadKind, .ref aMpage, .ref aMtrial, .ref aMbook, .int xM_acts, .ref aMkept, .ref aMisKept, .int xM_told, .ref aMtoldMinute, .ref aMtoldHeard, .long xM_seed, .int xM_orderBest, .int xM_orderMany, .ref aMworth, .int xM_turned], oI aMtoldMinute iMtoldMinute 6 xMtoldMinute, oI aMtoldHeard iMtoldHeard 6 xMtoldHeard] sz) := by
  refine kMet_i (own := RX5) z (fun u => u.1) (fun u => [oO aM 4 [.int u.2.1, .ref aMtext, .int xM_textSize, .int xM_place, .int xM_walkers, .int xM_light, .int xM_water, .ref aMnerve, .ref aMkind, .int xM_readWalkers, .int xM_readLight, .int xM_readWater, .ref aMreadNerve, .ref aMreadKind, .ref aMpage, .ref aMtrial, .ref aMbook, .int xM_acts, .ref aMkept, .ref aMisKept, .int u.2.2.1, .ref aMtoldMinute, .ref aMtoldHeard, .long xM_seed, .int xM_orderBest, .int xM_orderMany, .ref aMworth, .int xM_turned], oI aMtoldMinute iMtoldMinute 6 u.2.2.2.1, oI aMtoldHeard iMtoldHeard 6 u.2.2.2.2]) rfl (by decide) rfl ⟨rfl, rfl⟩ (Nat.le_of_ble_eq_true rfl) ?_
  intro X hXl hXD hC hQ
  subst hXl
  subst hXD
  change kG X 0 [(0, .ref aM), (1, .int j1), (2, .int j2)] [] [oO aM 4 [.int xM_thrown, .ref aMtext, .int xM_textSize, .int xM_place, .int xM_walkers, .int xM_light, .int xM_water, .ref aMnerve, .ref aMkind, .int xM_readWalkers, .int xM_readLight, .int xM_readWater, .ref aMreadNerve, .ref aMreadKind, .ref aMpage, .ref aMtrial, .ref aMbook, .int xM_acts, .ref aMkept, .ref aMisKept, .int xM_told, .ref aMtoldMinute, .ref aMtoldHeard, .long xM_seed, .int xM_orderBest, .int xM_orderMany, .ref aMworth, .int xM_turned], oI aMtoldMinute iMtoldMinute 6 xMtoldMinute, oI aMtoldHeard iMtoldHeard 6 xMtoldHeard]
  have hinX5 : ∀ w ∈ wsX50, w ∈ wsX5_tell := fun _ h => List.mem_cons_of_mem _ (List.mem_append_right _ h)
  unfold fX5_tell at hf
  refine g_aload_n hC 0 dX5_tell_0 rfl rfl ?_
  refine g_iconst (v := (0 : Int32)) hC dX5_tell_1 ci_0 ?_
  refine g_put (C := RX5) (T := TX5) (N := 28) (ty := .int) (ws' := [oO aM 4 [.int (0 : Int32), .ref aMtext, .int xM_textSize, .int xM_place, .int xM_walkers, .int xM_light, .int xM_water, .ref aMnerve, .ref aMkind, .int xM_readWalkers, .int xM_readLight, .int xM_readWater, .ref aMreadNerve, .ref aMreadKind, .ref aMpage, .ref aMtrial, .ref aMbook, .int xM_acts, .ref aMkept, .ref aMisKept, .int xM_told, .ref aMtoldMinute, .ref aMtoldHeard, .long xM_seed, .int xM_orderBest, .int xM_orderMany, .ref aMworth, .int xM_turned], oI aMtoldMinute iMtoldMinute 6 xMtoldMinute, oI aMtoldHeard iMtoldHeard 6 xMtoldHeard]) hC tyX5_ok nmX5 hinX5 0 0 rfl rfl (by decide) (List.mem_of_getElem? (i := 1) rfl) rfl rfl rfl rfl (Nat.le_of_ble_eq_true rfl) dX5_tell_2 rfl ?_
  refine g_iload_n hC 1 dX5_tell_5 rfl rfl ?_
  refine g_i2l hC dX5_tell_6 ?_
  refine g_lconst (v := (0 : Int64)) hC dX5_tell_7 rfl ?_
  refine g_ldc2 (v := (8 : Int64)) hC dX5_tell_8 (List.mem_of_getElem? (i := 2) rfl) ?_
  obtain ⟨z11, hz11, hf⟩ := gd_b hf
  refine g_callSi (wr := [oO aM 4 [.int (0 : Int32), .ref aMtext, .int xM_textSize, .int xM_place, .int xM_walkers, .int xM_light, .int xM_water, .ref aMnerve, .ref aMkind, .int xM_readWalkers, .int xM_readLight, .int xM_readWater, .ref aMreadNerve, .ref aMreadKind, .ref aMpage, .ref aMtrial, .ref aMbook, .int xM_acts, .ref aMkept, .ref aMisKept, .int xM_told, .ref aMtoldMinute, .ref aMtoldHeard, .long xM_seed, .int xM_orderBest, .int xM_orderMany, .ref aMworth, .int xM_turned], oI aMtoldMinute iMtoldMinute 6 xMtoldMinute, oI aMtoldHeard iMtoldHeard 6 xMtoldHeard]) (wn := [oO aM 4 [.int (0 : Int32), .ref aMtext, .int xM_textSize, .int xM_place, .int xM_walkers, .int xM_light, .int xM_water, .ref aMnerve, .ref aMkind, .int xM_readWalkers, .int xM_readLight, .int xM_readWater, .ref aMreadNerve, .ref aMreadKind, .ref aMpage, .ref aMtrial, .ref aMbook, .int xM_acts, .ref aMkept, .ref aMisKept, .int xM_told, .ref aMtoldMinute, .ref aMtoldHeard, .long xM_seed, .int xM_orderBest, .int xM_orderMany, .ref aMworth, .int xM_turned], oI aMtoldMinute iMtoldMinute 6 xMtoldMinute, oI aMtoldHeard iMtoldHeard 6 xMtoldHeard]) hC [.long j1.toInt64, .long (0 : Int64), .long (8 : Int64)] (cX5_in_m (kl X) (kD X) j1.toInt64 (0 : Int64) (8 : Int64) z11 hz11) gX5_tell_X5_in rfl kyX5_in rfl [] [0, 1, 2] [] [0, 1, 2] rfl rfl rfl rfl (by decide) rfl rfl rfl ⟨rfl, rfl⟩ ⟨Nat.le_of_ble_eq_true rfl, Nat.le_of_ble_eq_true rfl⟩ (Nat.le_of_ble_eq_true rfl) rfl dX5_tell_11 ?_
  refine g_if_ne (tgt := 20) hC dX5_tell_14 (by decide) (fun hc => ?_) (fun hc => ?_)
  · replace hf := gd_f hc hf
    refine g_aload_n hC 0 dX5_tell_20 rfl rfl ?_
    refine g_get (C := RX5) (T := TX5) (N := 28) (v := .int xM_told) hC hinX5 0 20 rfl rfl (by decide) (List.mem_of_getElem? (i := 3) rfl) rfl dX5_tell_21 ?_
    refine g_bipush (v := (6 : Int32)) hC dX5_tell_24 cb_6 ?_
    refine g_icmp_ne (tgt := 32) hC dX5_tell_26 (by decide) (fun hc => ?_) (fun hc => ?_)
    · replace hf := gd_f hc hf
      refine g_aload_n hC 0 dX5_tell_32 rfl rfl ?_
      refine g_get (C := RX5) (T := TX5) (N := 28) (v := .ref aMtoldMinute) hC hinX5 0 21 rfl rfl (by decide) (List.mem_of_getElem? (i := 4) rfl) rfl dX5_tell_33 ?_
      refine g_aload_n hC 0 dX5_tell_36 rfl rfl ?_
      refine g_get (C := RX5) (T := TX5) (N := 28) (v := .int xM_told) hC hinX5 0 20 rfl rfl (by decide) (List.mem_of_getElem? (i := 3) rfl) rfl dX5_tell_37 ?_
      refine g_iload_n hC 1 dX5_tell_40 rfl rfl ?_
      obtain ⟨hg, hf⟩ := gd_ga hf
      refine g_iast (ws' := [oO aM 4 [.int (0 : Int32), .ref aMtext, .int xM_textSize, .int xM_place, .int xM_walkers, .int xM_light, .int xM_water, .ref aMnerve, .ref aMkind, .int xM_readWalkers, .int xM_readLight, .int xM_readWater, .ref aMreadNerve, .ref aMreadKind, .ref aMpage, .ref aMtrial, .ref aMbook, .int xM_acts, .ref aMkept, .ref aMisKept, .int xM_told, .ref aMtoldMinute, .ref aMtoldHeard, .long xM_seed, .int xM_orderBest, .int xM_orderMany, .ref aMworth, .int xM_turned], oI aMtoldMinute iMtoldMinute 6 (upd xMtoldMinute xM_told.toNatClampNeg j1), oI aMtoldHeard iMtoldHeard 6 xMtoldHeard]) hC 1 0 hg rfl rfl dX5_tell_41 rfl ?_
      refine g_aload_n hC 0 dX5_tell_42 rfl rfl ?_
      refine g_get (C := RX5) (T := TX5) (N := 28) (v := .ref aMtoldHeard) hC hinX5 0 22 rfl rfl (by decide) (List.mem_of_getElem? (i := 5) rfl) rfl dX5_tell_43 ?_
      refine g_aload_n hC 0 dX5_tell_46 rfl rfl ?_
      refine g_get (C := RX5) (T := TX5) (N := 28) (v := .int xM_told) hC hinX5 0 20 rfl rfl (by decide) (List.mem_of_getElem? (i := 3) rfl) rfl dX5_tell_47 ?_
      refine g_iload_n hC 2 dX5_tell_50 rfl rfl ?_
      obtain ⟨hg, hf⟩ := gd_ga hf
      refine g_zast (ws' := [oO aM 4 [.int (0 : Int32), .ref aMtext, .int xM_textSize, .int xM_place, .int xM_walkers, .int xM_light, .int xM_water, .ref aMnerve, .ref aMkind, .int xM_readWalkers, .int xM_readLight, .int xM_readWater, .ref aMreadNerve, .ref aMreadKind, .ref aMpage, .ref aMtrial, .ref aMbook, .int xM_acts, .ref aMkept, .ref aMisKept, .int xM_told, .ref aMtoldMinute, .ref aMtoldHeard, .long xM_seed, .int xM_orderBest, .int xM_orderMany, .ref aMworth, .int xM_turned], oI aMtoldMinute iMtoldMinute 6 (upd xMtoldMinute xM_told.toNatClampNeg j1), oI aMtoldHeard iMtoldHeard 6 (upd xMtoldHeard xM_told.toNatClampNeg (vp_nar .boolean j2))]) hC 2 1 hg rfl rfl dX5_tell_51 rfl ?_
      refine g_aload_n hC 0 dX5_tell_52 rfl rfl ?_
      refine g_dup hC dX5_tell_53 rfl ?_
      refine g_get (C := RX5) (T := TX5) (N := 28) (v := .int xM_told) hC hinX5 0 20 rfl rfl (by decide) (List.mem_of_getElem? (i := 3) rfl) rfl dX5_tell_54 ?_
      refine g_iconst (v := (1 : Int32)) hC dX5_tell_57 ci_1 ?_
      refine g_iadd hC dX5_tell_58 ?_
      refine g_put (C := RX5) (T := TX5) (N := 28) (ty := .int) (ws' := [oO aM 4 [.int (0 : Int32), .ref aMtext, .int xM_textSize, .int xM_place, .int xM_walkers, .int xM_light, .int xM_water, .ref aMnerve, .ref aMkind, .int xM_readWalkers, .int xM_readLight, .int xM_readWater, .ref aMreadNerve, .ref aMreadKind, .ref aMpage, .ref aMtrial, .ref aMbook, .int xM_acts, .ref aMkept, .ref aMisKept, .int (xM_told + (1 : Int32)), .ref aMtoldMinute, .ref aMtoldHeard, .long xM_seed, .int xM_orderBest, .int xM_orderMany, .ref aMworth, .int xM_turned], oI aMtoldMinute iMtoldMinute 6 (upd xMtoldMinute xM_told.toNatClampNeg j1), oI aMtoldHeard iMtoldHeard 6 (upd xMtoldHeard xM_told.toNatClampNeg (vp_nar .boolean j2))]) hC tyX5_ok nmX5 hinX5 0 20 rfl rfl (by decide) (List.mem_of_getElem? (i := 3) rfl) rfl rfl rfl rfl (Nat.le_of_ble_eq_true rfl) dX5_tell_59 rfl ?_
      refine g_aload_n hC 0 dX5_tell_62 rfl rfl ?_
      refine g_get (C := RX5) (T := TX5) (N := 28) (v := .int (xM_told + (1 : Int32))) hC hinX5 0 20 rfl rfl (by decide) (List.mem_of_getElem? (i := 3) rfl) rfl dX5_tell_63 ?_
      exact hQ ((xM_told + (1 : Int32)), (0 : Int32), (xM_told + (1 : Int32)), (upd xMtoldMinute xM_told.toNatClampNeg j1), (upd xMtoldHeard xM_told.toNatClampNeg (vp_nar .boolean j2))) _ _ (gd_s hf) dX5_tell_66
    · replace hf := gd_t hc hf
      refine g_bipush (v := (-4 : Int32)) hC dX5_tell_29 cb_m4 ?_
      exact hQ ((-4 : Int32), (0 : Int32), xM_told, xMtoldMinute, xMtoldHeard) _ _ (gd_s hf) dX5_tell_31
  · replace hf := gd_t hc hf
    refine g_bipush (v := (-2 : Int32)) hC dX5_tell_17 cb_m2 ?_
    exact hQ ((-2 : Int32), (0 : Int32), xM_told, xMtoldMinute, xMtoldHeard) _ _ (gd_s hf) dX5_tell_19
theorem kyX5_untell : yX5_untell.cls = RX5 ∧ yX5_untell.cls ≠ "java/lang/invoke/MethodHandle" ∧ yX5_untell.cls ≠ "java/lang/invoke/VarHandle" ∧ (parseMethodDescriptor yX5_untell.desc).map (fun d => d.parameters.length) = some 0 := by decide +kernel
set_option maxHeartbeats 4000000 in
set_option maxRecDepth 100000 in
theorem cX5_untell_m (l : Launch) (D : va_G) (aM aMtext aMnerve aMkind aMreadNerve aMreadKind aMpage aMtrial aMbook aMkept aMisKept aMtoldMinute aMtoldHeard aMworth : Nat) (xM_thrown : Int32) (xM_textSize : Int32) (xM_place : Int32) (xM_walkers : Int32) (xM_light : Int32) (xM_water : Int32) (xM_readWalkers : Int32) (xM_readLight : Int32) (xM_readWater : Int32) (xM_acts : Int32) (xM_told : Int32) (xM_seed : Int64) (xM_orderBest : Int32) (xM_orderMany : Int32) (xM_turned : Int32)  (z : Int32 × Int32 × Int32) (hf : fX5_untell xM_thrown xM_told = some z) : ∀ sz : Nat, Met l yX5_untell wsX5_untell ({ frames := 0, cells := 0, slots := 0, locals := 0 } : Room) (kPre D [] [oO aM 4 [.int xM_thrown, .ref aMtext, .int xM_textSize, .int xM_place, .int xM_walkers, .int xM_light, .int xM_water, .ref aMnerve, .ref aMkind, .int xM_readWalkers, .int xM_readLight, .int xM_readWater, .ref aMreadNerve, .ref aMreadKind, .ref aMpage, .ref aMtrial, .ref aMbook, .int xM_acts, .ref aMkept, .ref aMisKept, .int xM_told, .ref aMtoldMinute, .ref aMtoldHeard, .long xM_seed, .int xM_orderBest, .int xM_orderMany, .ref aMworth, .int xM_turned]] sz [.ref aM]) (kQi D [] [oO aM 4 [.int xM_thrown, .ref aMtext, .int xM_textSize, .int xM_place, .int xM_walkers, .int xM_light, .int xM_water, .ref aMnerve, .ref aMkind, .int xM_readWalkers, .int xM_readLight, .int xM_readWater, .ref aMreadNerve, .ref aMreadKind, .ref aMpage, .ref aMtrial, .ref aMbook, .int xM_acts, .ref aMkept, .ref aMisKept, .int xM_told, .ref aMtoldMinute, .ref aMtoldHeard, .long xM_seed, .int xM_orderBest, .int xM_orderMany, .ref aMworth, .int xM_turned]] sz [oO aM 4 [.int z.2.1, .ref aMtext, .int xM_textSize, .int xM_place, .int xM_walkers, .int xM_light, .int xM_water, .ref aMnerve, .ref aMkind, .int xM_readWalkers, .int xM_readLight, .int xM_readWater, .ref aMreadNerve, .ref aMreadKind, .ref aMpage, .ref aMtrial, .ref aMbook, .int xM_acts, .ref aMkept, .ref aMisKept, .int z.2.2, .ref aMtoldMinute, .ref aMtoldHeard, .long xM_seed, .int xM_orderBest, .int xM_orderMany, .ref aMworth, .int xM_turned]] z.1) 0 0 (va_A [oO aM 4 [.int xM_thrown, .ref aMtext, .int xM_textSize, .int xM_place, .int xM_walkers, .int xM_light, .int xM_water, .ref aMnerve, .ref aMkind, .int xM_readWalkers, .int xM_readLight, .int xM_readWater, .ref aMreadNerve, .ref aMreadKind, .ref aMpage, .ref aMtrial, .ref aMbook, .int xM_acts, .ref aMkept, .ref aMisKept, .int xM_told, .ref aMtoldMinute, .ref aMtoldHeard, .long xM_seed, .int xM_orderBest, .int xM_orderMany, .ref aMworth, .int xM_turned]] sz) := by
  refine kMet_i (own := RX5) z (fun u => u.1) (fun u => [oO aM 4 [.int u.2.1, .ref aMtext, .int xM_textSize, .int xM_place, .int xM_walkers, .int xM_light, .int xM_water, .ref aMnerve, .ref aMkind, .int xM_readWalkers, .int xM_readLight, .int xM_readWater, .ref aMreadNerve, .ref aMreadKind, .ref aMpage, .ref aMtrial, .ref aMbook, .int xM_acts, .ref aMkept, .ref aMisKept, .int u.2.2, .ref aMtoldMinute, .ref aMtoldHeard, .long xM_seed, .int xM_orderBest, .int xM_orderMany, .ref aMworth, .int xM_turned]]) rfl (by decide) rfl ⟨rfl, rfl⟩ (Nat.le_of_ble_eq_true rfl) ?_
  intro X hXl hXD hC hQ
  subst hXl
  subst hXD
  change kG X 0 [(0, .ref aM)] [] [oO aM 4 [.int xM_thrown, .ref aMtext, .int xM_textSize, .int xM_place, .int xM_walkers, .int xM_light, .int xM_water, .ref aMnerve, .ref aMkind, .int xM_readWalkers, .int xM_readLight, .int xM_readWater, .ref aMreadNerve, .ref aMreadKind, .ref aMpage, .ref aMtrial, .ref aMbook, .int xM_acts, .ref aMkept, .ref aMisKept, .int xM_told, .ref aMtoldMinute, .ref aMtoldHeard, .long xM_seed, .int xM_orderBest, .int xM_orderMany, .ref aMworth, .int xM_turned]]
  have hinX5 : ∀ w ∈ wsX50, w ∈ wsX5_untell := fun _ h => List.mem_cons_of_mem _ (List.mem_append_right _ h)
  unfold fX5_untell at hf
  refine g_aload_n hC 0 dX5_untell_0 rfl rfl ?_
  refine g_iconst (v := (0 : Int32)) hC dX5_untell_1 ci_0 ?_
  refine g_put (C := RX5) (T := TX5) (N := 28) (ty := .int) (ws' := [oO aM 4 [.int (0 : Int32), .ref aMtext, .int xM_textSize, .int xM_place, .int xM_walkers, .int xM_light, .int xM_water, .ref aMnerve, .ref aMkind, .int xM_readWalkers, .int xM_readLight, .int xM_readWater, .ref aMreadNerve, .ref aMreadKind, .ref aMpage, .ref aMtrial, .ref aMbook, .int xM_acts, .ref aMkept, .ref aMisKept, .int xM_told, .ref aMtoldMinute, .ref aMtoldHeard, .long xM_seed, .int xM_orderBest, .int xM_orderMany, .ref aMworth, .int xM_turned]]) hC tyX5_ok nmX5 hinX5 0 0 rfl rfl (by decide) (List.mem_of_getElem? (i := 1) rfl) rfl rfl rfl rfl (Nat.le_of_ble_eq_true rfl) dX5_untell_2 rfl ?_
  refine g_aload_n hC 0 dX5_untell_5 rfl rfl ?_
  refine g_get (C := RX5) (T := TX5) (N := 28) (v := .int xM_told) hC hinX5 0 20 rfl rfl (by decide) (List.mem_of_getElem? (i := 2) rfl) rfl dX5_untell_6 ?_
  refine g_istore_n (lv' := [(1, .int xM_told), (0, .ref aM)]) hC dX5_untell_9 rfl (by decide) rfl ?_
  refine g_aload_n hC 1 dX5_untell_10 rfl rfl ?_
  refine g_iconst (v := (0 : Int32)) hC dX5_untell_11 ci_0 ?_
  refine g_put (C := RX5) (T := TX5) (N := 28) (ty := .int) (ws' := [oO aM 4 [.int (0 : Int32), .ref aMtext, .int xM_textSize, .int xM_place, .int xM_walkers, .int xM_light, .int xM_water, .ref aMnerve, .ref aMkind, .int xM_readWalkers, .int xM_readLight, .int xM_readWater, .ref aMreadNerve, .ref aMreadKind, .ref aMpage, .ref aMtrial, .ref aMbook, .int xM_acts, .ref aMkept, .ref aMisKept, .int (0 : Int32), .ref aMtoldMinute, .ref aMtoldHeard, .long xM_seed, .int xM_orderBest, .int xM_orderMany, .ref aMworth, .int xM_turned]]) hC tyX5_ok nmX5 hinX5 0 20 rfl rfl (by decide) (List.mem_of_getElem? (i := 2) rfl) rfl rfl rfl rfl (Nat.le_of_ble_eq_true rfl) dX5_untell_12 rfl ?_
  refine g_iload_n hC 0 dX5_untell_15 rfl rfl ?_
  exact hQ (xM_told, (0 : Int32), (0 : Int32)) _ _ (gd_s hf) dX5_untell_16
theorem kyX5_letGo : yX5_letGo.cls = RX5 ∧ yX5_letGo.cls ≠ "java/lang/invoke/MethodHandle" ∧ yX5_letGo.cls ≠ "java/lang/invoke/VarHandle" ∧ (parseMethodDescriptor yX5_letGo.desc).map (fun d => d.parameters.length) = some 1 := by decide +kernel
set_option maxHeartbeats 4000000 in
set_option maxRecDepth 100000 in
theorem cX5_letGo_m (l : Launch) (D : va_G) (aM aMtext aMnerve aMkind aMreadNerve aMreadKind aMpage aMtrial aMbook aMkept aMisKept aMtoldMinute aMtoldHeard aMworth : Nat) (iMtoldMinute iMtoldHeard : ClassId) (xM_thrown : Int32) (xM_textSize : Int32) (xM_place : Int32) (xM_walkers : Int32) (xM_light : Int32) (xM_water : Int32) (xM_readWalkers : Int32) (xM_readLight : Int32) (xM_readWater : Int32) (xM_acts : Int32) (xM_told : Int32) (xM_seed : Int64) (xM_orderBest : Int32) (xM_orderMany : Int32) (xM_turned : Int32) (xMtoldMinute : Nat → Int32) (xMtoldHeard : Nat → Int32) (j1 : Int32) (z : Int32 × Int32) (hf : fX5_letGo j1 xM_thrown xM_told xMtoldMinute xMtoldHeard = some z) : ∀ sz : Nat, Met l yX5_letGo wsX5_letGo ({ frames := 0, cells := 0, slots := 0, locals := 0 } : Room) (kPre D [(iMtoldMinute, .int), (iMtoldHeard, .boolean)] [oO aM 4 [.int xM_thrown, .ref aMtext, .int xM_textSize, .int xM_place, .int xM_walkers, .int xM_light, .int xM_water, .ref aMnerve, .ref aMkind, .int xM_readWalkers, .int xM_readLight, .int xM_readWater, .ref aMreadNerve, .ref aMreadKind, .ref aMpage, .ref aMtrial, .ref aMbook, .int xM_acts, .ref aMkept, .ref aMisKept, .int xM_told, .ref aMtoldMinute, .ref aMtoldHeard, .long xM_seed, .int xM_orderBest, .int xM_orderMany, .ref aMworth, .int xM_turned], oI aMtoldMinute iMtoldMinute 6 xMtoldMinute, oI aMtoldHeard iMtoldHeard 6 xMtoldHeard] sz [.ref aM, .int j1]) (kQi D [(iMtoldMinute, .int), (iMtoldHeard, .boolean)] [oO aM 4 [.int xM_thrown, .ref aMtext, .int xM_textSize, .int xM_place, .int xM_walkers, .int xM_light, .int xM_water, .ref aMnerve, .ref aMkind, .int xM_readWalkers, .int xM_readLight, .int xM_readWater, .ref aMreadNerve, .ref aMreadKind, .ref aMpage, .ref aMtrial, .ref aMbook, .int xM_acts, .ref aMkept, .ref aMisKept, .int xM_told, .ref aMtoldMinute, .ref aMtoldHeard, .long xM_seed, .int xM_orderBest, .int xM_orderMany, .ref aMworth, .int xM_turned], oI aMtoldMinute iMtoldMinute 6 xMtoldMinute, oI aMtoldHeard iMtoldHeard 6 xMtoldHeard] sz [oO aM 4 [.int z.2, .ref aMtext, .int xM_textSize, .int xM_place, .int xM_walkers, .int xM_light, .int xM_water, .ref aMnerve, .ref aMkind, .int xM_readWalkers, .int xM_readLight, .int xM_readWater, .ref aMreadNerve, .ref aMreadKind, .ref aMpage, .ref aMtrial, .ref aMbook, .int xM_acts, .ref aMkept, .ref aMisKept, .int xM_told, .ref aMtoldMinute, .ref aMtoldHeard, .long xM_seed, .int xM_orderBest, .int xM_orderMany, .ref aMworth, .int xM_turned], oI aMtoldMinute iMtoldMinute 6 xMtoldMinute, oI aMtoldHeard iMtoldHeard 6 xMtoldHeard] z.1) 0 0 (va_A [oO aM 4 [.int xM_thrown, .ref aMtext, .int xM_textSize, .int xM_place, .int xM_walkers, .int xM_light, .int xM_water, .ref aMnerve, .ref aMkind, .int xM_readWalkers, .int xM_readLight, .int xM_readWater, .ref aMreadNerve, .ref aMreadKind, .ref aMpage, .ref aMtrial, .ref aMbook, .int xM_acts, .ref aMkept, .ref aMisKept, .int xM_told, .ref aMtoldMinute, .ref aMtoldHeard, .long xM_seed, .int xM_orderBest, .int xM_orderMany, .ref aMworth, .int xM_turned], oI aMtoldMinute iMtoldMinute 6 xMtoldMinute, oI aMtoldHeard iMtoldHeard 6 xMtoldHeard] sz) := by
  refine kMet_i (own := RX5) z (fun u => u.1) (fun u => [oO aM 4 [.int u.2, .ref aMtext, .int xM_textSize, .int xM_place, .int xM_walkers, .int xM_light, .int xM_water, .ref aMnerve, .ref aMkind, .int xM_readWalkers, .int xM_readLight, .int xM_readWater, .ref aMreadNerve, .ref aMreadKind, .ref aMpage, .ref aMtrial, .ref aMbook, .int xM_acts, .ref aMkept, .ref aMisKept, .int xM_told, .ref aMtoldMinute, .ref aMtoldHeard, .long xM_seed, .int xM_orderBest, .int xM_orderMany, .ref aMworth, .int xM_turned], oI aMtoldMinute iMtoldMinute 6 xMtoldMinute, oI aMtoldHeard iMtoldHeard 6 xMtoldHeard]) rfl (by decide) rfl ⟨rfl, rfl⟩ (Nat.le_of_ble_eq_true rfl) ?_
  intro X hXl hXD hC hQ
  subst hXl
  subst hXD
  change kG X 0 [(0, .ref aM), (1, .int j1)] [] [oO aM 4 [.int xM_thrown, .ref aMtext, .int xM_textSize, .int xM_place, .int xM_walkers, .int xM_light, .int xM_water, .ref aMnerve, .ref aMkind, .int xM_readWalkers, .int xM_readLight, .int xM_readWater, .ref aMreadNerve, .ref aMreadKind, .ref aMpage, .ref aMtrial, .ref aMbook, .int xM_acts, .ref aMkept, .ref aMisKept, .int xM_told, .ref aMtoldMinute, .ref aMtoldHeard, .long xM_seed, .int xM_orderBest, .int xM_orderMany, .ref aMworth, .int xM_turned], oI aMtoldMinute iMtoldMinute 6 xMtoldMinute, oI aMtoldHeard iMtoldHeard 6 xMtoldHeard]
  have hinX5 : ∀ w ∈ wsX50, w ∈ wsX5_letGo := fun _ h => List.mem_cons_of_mem _ (List.mem_append_right _ h)
  have t106 : ∀ (k9 : Int32 → Int32 → Int32 → Int32 → Option (Int32 × Int32)) (hk9 : ∀ (j1 : Int32) (j2 : Int32) (j3 : Int32) (xM_thrown : Int32), k9 j1 j2 j3 xM_thrown = some z → kG X 9 [(0, .ref aM), (1, .int j1), (2, .int j2), (3, .int j3)] [] [oO aM 4 [.int xM_thrown, .ref aMtext, .int xM_textSize, .int xM_place, .int xM_walkers, .int xM_light, .int xM_water, .ref aMnerve, .ref aMkind, .int xM_readWalkers, .int xM_readLight, .int xM_readWater, .ref aMreadNerve, .ref aMreadKind, .ref aMpage, .ref aMtrial, .ref aMbook, .int xM_acts, .ref aMkept, .ref aMisKept, .int xM_told, .ref aMtoldMinute, .ref aMtoldHeard, .long xM_seed, .int xM_orderBest, .int xM_orderMany, .ref aMworth, .int xM_turned], oI aMtoldMinute iMtoldMinute 6 xMtoldMinute, oI aMtoldHeard iMtoldHeard 6 xMtoldHeard]) (j1 : Int32) (j3 : Int32) (y0 : Int32) (y1 : Int32) (xM_thrown : Int32), fX5_letGo_b106 xM_told xMtoldMinute xMtoldHeard k9 j1 j3 y0 y1 xM_thrown = some z → kG X 106 [(0, .ref aM), (1, .int j1), (3, .int j3)] [.int y0, .int y1] [oO aM 4 [.int xM_thrown, .ref aMtext, .int xM_textSize, .int xM_place, .int xM_walkers, .int xM_light, .int xM_water, .ref aMnerve, .ref aMkind, .int xM_readWalkers, .int xM_readLight, .int xM_readWater, .ref aMreadNerve, .ref aMreadKind, .ref aMpage, .ref aMtrial, .ref aMbook, .int xM_acts, .ref aMkept, .ref aMisKept, .int xM_told, .ref aMtoldMinute, .ref aMtoldHeard, .long xM_seed, .int xM_orderBest, .int xM_orderMany, .ref aMworth, .int xM_turned], oI aMtoldMinute iMtoldMinute 6 xMtoldMinute, oI aMtoldHeard iMtoldHeard 6 xMtoldHeard] := by
    intro k9 hk9 j1 j3 y0 y1 xM_thrown hf
    unfold fX5_letGo_b106 at hf
    refine g_ior hC dX5_letGo_106 ?_
    refine g_istore_n (lv' := [(2, .int (y1 ||| y0)), (0, .ref aM), (1, .int j1), (3, .int j3)]) hC dX5_letGo_107 rfl (by decide) rfl ?_
    refine g_iinc (v := (j3 + (1 : Int32))) (lv' := [(3, .int (j3 + (1 : Int32))), (2, .int (y1 ||| y0)), (0, .ref aM), (1, .int j1)]) hC 3 dX5_letGo_108 rfl (ii _ ci_1) (by decide) rfl ?_
    refine g_goto (tgt := 9) hC dX5_letGo_111 (by decide) ?_
    refine g_lv (lv' := [(0, .ref aM), (1, .int j1), (2, .int (y1 ||| y0)), (3, .int (j3 + (1 : Int32)))]) [2, 3, 1, 0] rfl ?_
    exact hk9 j1 (y1 ||| y0) (j3 + (1 : Int32)) xM_thrown hf
  have t85 : ∀ (k9 : Int32 → Int32 → Int32 → Int32 → Option (Int32 × Int32)) (hk9 : ∀ (j1 : Int32) (j2 : Int32) (j3 : Int32) (xM_thrown : Int32), k9 j1 j2 j3 xM_thrown = some z → kG X 9 [(0, .ref aM), (1, .int j1), (2, .int j2), (3, .int j3)] [] [oO aM 4 [.int xM_thrown, .ref aMtext, .int xM_textSize, .int xM_place, .int xM_walkers, .int xM_light, .int xM_water, .ref aMnerve, .ref aMkind, .int xM_readWalkers, .int xM_readLight, .int xM_readWater, .ref aMreadNerve, .ref aMreadKind, .ref aMpage, .ref aMtrial, .ref aMbook, .int xM_acts, .ref aMkept, .ref aMisKept, .int xM_told, .ref aMtoldMinute, .ref aMtoldHeard, .long xM_seed, .int xM_orderBest, .int xM_orderMany, .ref aMworth, .int xM_turned], oI aMtoldMinute iMtoldMinute 6 xMtoldMinute, oI aMtoldHeard iMtoldHeard 6 xMtoldHeard]) (k21 : Int32 → Int32 → Int32 → Int32 → Int32 → Int32 → Option (Int32 × Int32)) (hk21 : ∀ (j1 : Int32) (j2 : Int32) (j3 : Int32) (j4 : Int32) (j5 : Int32) (xM_thrown : Int32), k21 j1 j2 j3 j4 j5 xM_thrown = some z → kG X 21 [(0, .ref aM), (1, .int j1), (2, .int j2), (3, .int j3), (4, .int j4), (5, .int j5)] [] [oO aM 4 [.int xM_thrown, .ref aMtext, .int xM_textSize, .int xM_place, .int xM_walkers, .int xM_light, .int xM_water, .ref aMnerve, .ref aMkind, .int xM_readWalkers, .int xM_readLight, .int xM_readWater, .ref aMreadNerve, .ref aMreadKind, .ref aMpage, .ref aMtrial, .ref aMbook, .int xM_acts, .ref aMkept, .ref aMisKept, .int xM_told, .ref aMtoldMinute, .ref aMtoldHeard, .long xM_seed, .int xM_orderBest, .int xM_orderMany, .ref aMworth, .int xM_turned], oI aMtoldMinute iMtoldMinute 6 xMtoldMinute, oI aMtoldHeard iMtoldHeard 6 xMtoldHeard]) (j1 : Int32) (j2 : Int32) (j3 : Int32) (j5 : Int32) (y0 : Int32) (xM_thrown : Int32), fX5_letGo_b85 xM_told xMtoldMinute xMtoldHeard k9 k21 j1 j2 j3 j5 y0 xM_thrown = some z → kG X 85 [(0, .ref aM), (1, .int j1), (2, .int j2), (3, .int j3), (5, .int j5)] [.int y0] [oO aM 4 [.int xM_thrown, .ref aMtext, .int xM_textSize, .int xM_place, .int xM_walkers, .int xM_light, .int xM_water, .ref aMnerve, .ref aMkind, .int xM_readWalkers, .int xM_readLight, .int xM_readWater, .ref aMreadNerve, .ref aMreadKind, .ref aMpage, .ref aMtrial, .ref aMbook, .int xM_acts, .ref aMkept, .ref aMisKept, .int xM_told, .ref aMtoldMinute, .ref aMtoldHeard, .long xM_seed, .int xM_orderBest, .int xM_orderMany, .ref aMworth, .int xM_turned], oI aMtoldMinute iMtoldMinute 6 xMtoldMinute, oI aMtoldHeard iMtoldHeard 6 xMtoldHeard] := by
    intro k9 hk9 k21 hk21 j1 j2 j3 j5 y0 xM_thrown hf
    unfold fX5_letGo_b85 at hf
    refine g_istore (lv' := [(4, .int y0), (0, .ref aM), (1, .int j1), (2, .int j2), (3, .int j3), (5, .int j5)]) hC dX5_letGo_85 (by decide) rfl ?_
    refine g_iinc (v := (j5 + (1 : Int32))) (lv' := [(5, .int (j5 + (1 : Int32))), (4, .int y0), (0, .ref aM), (1, .int j1), (2, .int j2), (3, .int j3)]) hC 5 dX5_letGo_87 rfl (ii _ ci_1) (by decide) rfl ?_
    refine g_goto (tgt := 21) hC dX5_letGo_90 (by decide) ?_
    refine g_lv (lv' := [(0, .ref aM), (1, .int j1), (2, .int j2), (3, .int j3), (4, .int y0), (5, .int (j5 + (1 : Int32)))]) [2, 3, 4, 5, 1, 0] rfl ?_
    exact hk21 j1 j2 j3 y0 (j5 + (1 : Int32)) xM_thrown hf
  have t84 : ∀ (k9 : Int32 → Int32 → Int32 → Int32 → Option (Int32 × Int32)) (hk9 : ∀ (j1 : Int32) (j2 : Int32) (j3 : Int32) (xM_thrown : Int32), k9 j1 j2 j3 xM_thrown = some z → kG X 9 [(0, .ref aM), (1, .int j1), (2, .int j2), (3, .int j3)] [] [oO aM 4 [.int xM_thrown, .ref aMtext, .int xM_textSize, .int xM_place, .int xM_walkers, .int xM_light, .int xM_water, .ref aMnerve, .ref aMkind, .int xM_readWalkers, .int xM_readLight, .int xM_readWater, .ref aMreadNerve, .ref aMreadKind, .ref aMpage, .ref aMtrial, .ref aMbook, .int xM_acts, .ref aMkept, .ref aMisKept, .int xM_told, .ref aMtoldMinute, .ref aMtoldHeard, .long xM_seed, .int xM_orderBest, .int xM_orderMany, .ref aMworth, .int xM_turned], oI aMtoldMinute iMtoldMinute 6 xMtoldMinute, oI aMtoldHeard iMtoldHeard 6 xMtoldHeard]) (k21 : Int32 → Int32 → Int32 → Int32 → Int32 → Int32 → Option (Int32 × Int32)) (hk21 : ∀ (j1 : Int32) (j2 : Int32) (j3 : Int32) (j4 : Int32) (j5 : Int32) (xM_thrown : Int32), k21 j1 j2 j3 j4 j5 xM_thrown = some z → kG X 21 [(0, .ref aM), (1, .int j1), (2, .int j2), (3, .int j3), (4, .int j4), (5, .int j5)] [] [oO aM 4 [.int xM_thrown, .ref aMtext, .int xM_textSize, .int xM_place, .int xM_walkers, .int xM_light, .int xM_water, .ref aMnerve, .ref aMkind, .int xM_readWalkers, .int xM_readLight, .int xM_readWater, .ref aMreadNerve, .ref aMreadKind, .ref aMpage, .ref aMtrial, .ref aMbook, .int xM_acts, .ref aMkept, .ref aMisKept, .int xM_told, .ref aMtoldMinute, .ref aMtoldHeard, .long xM_seed, .int xM_orderBest, .int xM_orderMany, .ref aMworth, .int xM_turned], oI aMtoldMinute iMtoldMinute 6 xMtoldMinute, oI aMtoldHeard iMtoldHeard 6 xMtoldHeard]) (j1 : Int32) (j2 : Int32) (j3 : Int32) (j5 : Int32) (xM_thrown : Int32), fX5_letGo_b84 xM_told xMtoldMinute xMtoldHeard k9 k21 j1 j2 j3 j5 xM_thrown = some z → kG X 84 [(0, .ref aM), (1, .int j1), (2, .int j2), (3, .int j3), (5, .int j5)] [] [oO aM 4 [.int xM_thrown, .ref aMtext, .int xM_textSize, .int xM_place, .int xM_walkers, .int xM_light, .int xM_water, .ref aMnerve, .ref aMkind, .int xM_readWalkers, .int xM_readLight, .int xM_readWater, .ref aMreadNerve, .ref aMreadKind, .ref aMpage, .ref aMtrial, .ref aMbook, .int xM_acts, .ref aMkept, .ref aMisKept, .int xM_told, .ref aMtoldMinute, .ref aMtoldHeard, .long xM_seed, .int xM_orderBest, .int xM_orderMany, .ref aMworth, .int xM_turned], oI aMtoldMinute iMtoldMinute 6 xMtoldMinute, oI aMtoldHeard iMtoldHeard 6 xMtoldHeard] := by
    intro k9 hk9 k21 hk21 j1 j2 j3 j5 xM_thrown hf
    unfold fX5_letGo_b84 at hf
    refine g_iconst (v := (0 : Int32)) hC dX5_letGo_84 ci_0 ?_
    exact t85 k9 hk9 k21 hk21 j1 j2 j3 j5 (0 : Int32) xM_thrown hf
  have t80 : ∀ (k9 : Int32 → Int32 → Int32 → Int32 → Option (Int32 × Int32)) (hk9 : ∀ (j1 : Int32) (j2 : Int32) (j3 : Int32) (xM_thrown : Int32), k9 j1 j2 j3 xM_thrown = some z → kG X 9 [(0, .ref aM), (1, .int j1), (2, .int j2), (3, .int j3)] [] [oO aM 4 [.int xM_thrown, .ref aMtext, .int xM_textSize, .int xM_place, .int xM_walkers, .int xM_light, .int xM_water, .ref aMnerve, .ref aMkind, .int xM_readWalkers, .int xM_readLight, .int xM_readWater, .ref aMreadNerve, .ref aMreadKind, .ref aMpage, .ref aMtrial, .ref aMbook, .int xM_acts, .ref aMkept, .ref aMisKept, .int xM_told, .ref aMtoldMinute, .ref aMtoldHeard, .long xM_seed, .int xM_orderBest, .int xM_orderMany, .ref aMworth, .int xM_turned], oI aMtoldMinute iMtoldMinute 6 xMtoldMinute, oI aMtoldHeard iMtoldHeard 6 xMtoldHeard]) (k21 : Int32 → Int32 → Int32 → Int32 → Int32 → Int32 → Option (Int32 × Int32)) (hk21 : ∀ (j1 : Int32) (j2 : Int32) (j3 : Int32) (j4 : Int32) (j5 : Int32) (xM_thrown : Int32), k21 j1 j2 j3 j4 j5 xM_thrown = some z → kG X 21 [(0, .ref aM), (1, .int j1), (2, .int j2), (3, .int j3), (4, .int j4), (5, .int j5)] [] [oO aM 4 [.int xM_thrown, .ref aMtext, .int xM_textSize, .int xM_place, .int xM_walkers, .int xM_light, .int xM_water, .ref aMnerve, .ref aMkind, .int xM_readWalkers, .int xM_readLight, .int xM_readWater, .ref aMreadNerve, .ref aMreadKind, .ref aMpage, .ref aMtrial, .ref aMbook, .int xM_acts, .ref aMkept, .ref aMisKept, .int xM_told, .ref aMtoldMinute, .ref aMtoldHeard, .long xM_seed, .int xM_orderBest, .int xM_orderMany, .ref aMworth, .int xM_turned], oI aMtoldMinute iMtoldMinute 6 xMtoldMinute, oI aMtoldHeard iMtoldHeard 6 xMtoldHeard]) (j1 : Int32) (j2 : Int32) (j3 : Int32) (j5 : Int32) (xM_thrown : Int32), fX5_letGo_b80 xM_told xMtoldMinute xMtoldHeard k9 k21 j1 j2 j3 j5 xM_thrown = some z → kG X 80 [(0, .ref aM), (1, .int j1), (2, .int j2), (3, .int j3), (5, .int j5)] [] [oO aM 4 [.int xM_thrown, .ref aMtext, .int xM_textSize, .int xM_place, .int xM_walkers, .int xM_light, .int xM_water, .ref aMnerve, .ref aMkind, .int xM_readWalkers, .int xM_readLight, .int xM_readWater, .ref aMreadNerve, .ref aMreadKind, .ref aMpage, .ref aMtrial, .ref aMbook, .int xM_acts, .ref aMkept, .ref aMisKept, .int xM_told, .ref aMtoldMinute, .ref aMtoldHeard, .long xM_seed, .int xM_orderBest, .int xM_orderMany, .ref aMworth, .int xM_turned], oI aMtoldMinute iMtoldMinute 6 xMtoldMinute, oI aMtoldHeard iMtoldHeard 6 xMtoldHeard] := by
    intro k9 hk9 k21 hk21 j1 j2 j3 j5 xM_thrown hf
    unfold fX5_letGo_b80 at hf
    refine g_iconst (v := (1 : Int32)) hC dX5_letGo_80 ci_1 ?_
    refine g_goto (tgt := 85) hC dX5_letGo_81 (by decide) ?_
    exact t85 k9 hk9 k21 hk21 j1 j2 j3 j5 (1 : Int32) xM_thrown hf
  have t46 : ∀ (k9 : Int32 → Int32 → Int32 → Int32 → Option (Int32 × Int32)) (hk9 : ∀ (j1 : Int32) (j2 : Int32) (j3 : Int32) (xM_thrown : Int32), k9 j1 j2 j3 xM_thrown = some z → kG X 9 [(0, .ref aM), (1, .int j1), (2, .int j2), (3, .int j3)] [] [oO aM 4 [.int xM_thrown, .ref aMtext, .int xM_textSize, .int xM_place, .int xM_walkers, .int xM_light, .int xM_water, .ref aMnerve, .ref aMkind, .int xM_readWalkers, .int xM_readLight, .int xM_readWater, .ref aMreadNerve, .ref aMreadKind, .ref aMpage, .ref aMtrial, .ref aMbook, .int xM_acts, .ref aMkept, .ref aMisKept, .int xM_told, .ref aMtoldMinute, .ref aMtoldHeard, .long xM_seed, .int xM_orderBest, .int xM_orderMany, .ref aMworth, .int xM_turned], oI aMtoldMinute iMtoldMinute 6 xMtoldMinute, oI aMtoldHeard iMtoldHeard 6 xMtoldHeard]) (k21 : Int32 → Int32 → Int32 → Int32 → Int32 → Int32 → Option (Int32 × Int32)) (hk21 : ∀ (j1 : Int32) (j2 : Int32) (j3 : Int32) (j4 : Int32) (j5 : Int32) (xM_thrown : Int32), k21 j1 j2 j3 j4 j5 xM_thrown = some z → kG X 21 [(0, .ref aM), (1, .int j1), (2, .int j2), (3, .int j3), (4, .int j4), (5, .int j5)] [] [oO aM 4 [.int xM_thrown, .ref aMtext, .int xM_textSize, .int xM_place, .int xM_walkers, .int xM_light, .int xM_water, .ref aMnerve, .ref aMkind, .int xM_readWalkers, .int xM_readLight, .int xM_readWater, .ref aMreadNerve, .ref aMreadKind, .ref aMpage, .ref aMtrial, .ref aMbook, .int xM_acts, .ref aMkept, .ref aMisKept, .int xM_told, .ref aMtoldMinute, .ref aMtoldHeard, .long xM_seed, .int xM_orderBest, .int xM_orderMany, .ref aMworth, .int xM_turned], oI aMtoldMinute iMtoldMinute 6 xMtoldMinute, oI aMtoldHeard iMtoldHeard 6 xMtoldHeard]) (j1 : Int32) (j2 : Int32) (j3 : Int32) (j4 : Int32) (j5 : Int32) (y0 : Int32) (xM_thrown : Int32), fX5_letGo_b46 xM_told xMtoldMinute xMtoldHeard k9 k21 j1 j2 j3 j4 j5 y0 xM_thrown = some z → kG X 46 [(0, .ref aM), (1, .int j1), (2, .int j2), (3, .int j3), (4, .int j4), (5, .int j5)] [.int y0] [oO aM 4 [.int xM_thrown, .ref aMtext, .int xM_textSize, .int xM_place, .int xM_walkers, .int xM_light, .int xM_water, .ref aMnerve, .ref aMkind, .int xM_readWalkers, .int xM_readLight, .int xM_readWater, .ref aMreadNerve, .ref aMreadKind, .ref aMpage, .ref aMtrial, .ref aMbook, .int xM_acts, .ref aMkept, .ref aMisKept, .int xM_told, .ref aMtoldMinute, .ref aMtoldHeard, .long xM_seed, .int xM_orderBest, .int xM_orderMany, .ref aMworth, .int xM_turned], oI aMtoldMinute iMtoldMinute 6 xMtoldMinute, oI aMtoldHeard iMtoldHeard 6 xMtoldHeard] := by
    intro k9 hk9 k21 hk21 j1 j2 j3 j4 j5 y0 xM_thrown hf
    unfold fX5_letGo_b46 at hf
    refine g_istore (lv' := [(6, .int y0), (0, .ref aM), (1, .int j1), (2, .int j2), (3, .int j3), (4, .int j4), (5, .int j5)]) hC dX5_letGo_46 (by decide) rfl ?_
    refine g_iload hC 5 dX5_letGo_48 rfl ?_
    refine g_if_eq (tgt := 84) hC dX5_letGo_50 (by decide) (fun hc => ?_) (fun hc => ?_)
    · replace hf := gd_t hc hf
      refine g_lv (lv' := [(0, .ref aM), (1, .int j1), (2, .int j2), (3, .int j3), (5, .int j5)]) [1, 2, 3, 4, 6] rfl ?_
      exact t84 k9 hk9 k21 hk21 j1 j2 j3 j5 xM_thrown hf
    · replace hf := gd_f hc hf
      refine g_aload_n hC 1 dX5_letGo_53 rfl rfl ?_
      refine g_get (C := RX5) (T := TX5) (N := 28) (v := .ref aMtoldHeard) hC hinX5 0 22 rfl rfl (by decide) (List.mem_of_getElem? (i := 4) rfl) rfl dX5_letGo_54 ?_
      refine g_iload hC 6 dX5_letGo_57 rfl ?_
      obtain ⟨hg, hf⟩ := gd_ga hf
      refine g_zald hC 2 1 hg rfl rfl dX5_letGo_59 ?_
      refine g_if_eq (tgt := 71) hC dX5_letGo_60 (by decide) (fun hc => ?_) (fun hc => ?_)
      · replace hf := gd_t hc hf
        refine g_iload hC 0 dX5_letGo_71 rfl ?_
        refine g_if_eq (tgt := 80) hC dX5_letGo_73 (by decide) (fun hc => ?_) (fun hc => ?_)
        · replace hf := gd_t hc hf
          refine g_lv (lv' := [(0, .ref aM), (1, .int j1), (2, .int j2), (3, .int j3), (5, .int j5)]) [1, 2, 3, 4, 6] rfl ?_
          exact t80 k9 hk9 k21 hk21 j1 j2 j3 j5 xM_thrown hf
        · replace hf := gd_f hc hf
          refine g_iload_n hC 2 dX5_letGo_76 rfl rfl ?_
          refine g_if_ne (tgt := 84) hC dX5_letGo_77 (by decide) (fun hc => ?_) (fun hc => ?_)
          · replace hf := gd_f hc hf
            refine g_lv (lv' := [(0, .ref aM), (1, .int j1), (2, .int j2), (3, .int j3), (5, .int j5)]) [1, 2, 3, 4, 6] rfl ?_
            exact t84 k9 hk9 k21 hk21 j1 j2 j3 j5 xM_thrown hf
          · replace hf := gd_t hc hf
            refine g_lv (lv' := [(0, .ref aM), (1, .int j1), (2, .int j2), (3, .int j3), (5, .int j5)]) [1, 2, 3, 4, 6] rfl ?_
            exact t80 k9 hk9 k21 hk21 j1 j2 j3 j5 xM_thrown hf
      · replace hf := gd_f hc hf
        refine g_iload hC 0 dX5_letGo_63 rfl ?_
        refine g_if_eq (tgt := 84) hC dX5_letGo_65 (by decide) (fun hc => ?_) (fun hc => ?_)
        · replace hf := gd_t hc hf
          refine g_lv (lv' := [(0, .ref aM), (1, .int j1), (2, .int j2), (3, .int j3), (5, .int j5)]) [1, 2, 3, 4, 6] rfl ?_
          exact t84 k9 hk9 k21 hk21 j1 j2 j3 j5 xM_thrown hf
        · replace hf := gd_f hc hf
          refine g_goto (tgt := 80) hC dX5_letGo_68 (by decide) ?_
          refine g_lv (lv' := [(0, .ref aM), (1, .int j1), (2, .int j2), (3, .int j3), (5, .int j5)]) [1, 2, 3, 4, 6] rfl ?_
          exact t80 k9 hk9 k21 hk21 j1 j2 j3 j5 xM_thrown hf
  have t21 : ∀ (k9 : Int32 → Int32 → Int32 → Int32 → Option (Int32 × Int32)) (hk9 : ∀ (j1 : Int32) (j2 : Int32) (j3 : Int32) (xM_thrown : Int32), k9 j1 j2 j3 xM_thrown = some z → kG X 9 [(0, .ref aM), (1, .int j1), (2, .int j2), (3, .int j3)] [] [oO aM 4 [.int xM_thrown, .ref aMtext, .int xM_textSize, .int xM_place, .int xM_walkers, .int xM_light, .int xM_water, .ref aMnerve, .ref aMkind, .int xM_readWalkers, .int xM_readLight, .int xM_readWater, .ref aMreadNerve, .ref aMreadKind, .ref aMpage, .ref aMtrial, .ref aMbook, .int xM_acts, .ref aMkept, .ref aMisKept, .int xM_told, .ref aMtoldMinute, .ref aMtoldHeard, .long xM_seed, .int xM_orderBest, .int xM_orderMany, .ref aMworth, .int xM_turned], oI aMtoldMinute iMtoldMinute 6 xMtoldMinute, oI aMtoldHeard iMtoldHeard 6 xMtoldHeard]) (n : Nat) (j1 : Int32) (j2 : Int32) (j3 : Int32) (j4 : Int32) (j5 : Int32) (xM_thrown : Int32), lp (fun _ _ _ _ _ _ => none) (fX5_letGo_b21_S xM_told xMtoldMinute xMtoldHeard k9) n j1 j2 j3 j4 j5 xM_thrown = some z → kG X 21 [(0, .ref aM), (1, .int j1), (2, .int j2), (3, .int j3), (4, .int j4), (5, .int j5)] [] [oO aM 4 [.int xM_thrown, .ref aMtext, .int xM_textSize, .int xM_place, .int xM_walkers, .int xM_light, .int xM_water, .ref aMnerve, .ref aMkind, .int xM_readWalkers, .int xM_readLight, .int xM_readWater, .ref aMreadNerve, .ref aMreadKind, .ref aMpage, .ref aMtrial, .ref aMbook, .int xM_acts, .ref aMkept, .ref aMisKept, .int xM_told, .ref aMtoldMinute, .ref aMtoldHeard, .long xM_seed, .int xM_orderBest, .int xM_orderMany, .ref aMworth, .int xM_turned], oI aMtoldMinute iMtoldMinute 6 xMtoldMinute, oI aMtoldHeard iMtoldHeard 6 xMtoldHeard] := by
    intro k9 hk9 n
    induction n with
    | zero => intro j1 j2 j3 j4 j5 xM_thrown hf; cases hf
    | succ n hk21 =>
      intro j1 j2 j3 j4 j5 xM_thrown hf
      rw [lp_s] at hf
      revert hf hk21
      generalize lp (fun _ _ _ _ _ _ => none) (fX5_letGo_b21_S xM_told xMtoldMinute xMtoldHeard k9) n = k21
      intro hk21 hf
      unfold fX5_letGo_b21_S at hf
      refine g_iload hC 5 dX5_letGo_21 rfl ?_
      refine g_aload_n hC 0 dX5_letGo_23 rfl rfl ?_
      refine g_get (C := RX5) (T := TX5) (N := 28) (v := .int xM_told) hC hinX5 0 20 rfl rfl (by decide) (List.mem_of_getElem? (i := 2) rfl) rfl dX5_letGo_24 ?_
      refine g_icmp_ge (tgt := 93) hC dX5_letGo_27 (by decide) (fun hc => ?_) (fun hc => ?_)
      · replace hf := gd_t hc hf
        refine g_iload_n hC 2 dX5_letGo_93 rfl rfl ?_
        refine g_iload hC 4 dX5_letGo_94 rfl ?_
        refine g_if_eq (tgt := 105) hC dX5_letGo_96 (by decide) (fun hc => ?_) (fun hc => ?_)
        · replace hf := gd_t hc hf
          refine g_iconst (v := (0 : Int32)) hC dX5_letGo_105 ci_0 ?_
          refine g_lv (lv' := [(0, .ref aM), (1, .int j1), (3, .int j3)]) [0, 1, 3] rfl ?_
          exact t106 k9 hk9 j1 j3 (0 : Int32) j2 xM_thrown hf
        · replace hf := gd_f hc hf
          refine g_iconst (v := (1 : Int32)) hC dX5_letGo_99 ci_1 ?_
          refine g_iload_n hC 3 dX5_letGo_100 rfl rfl ?_
          refine g_ishl hC dX5_letGo_101 ?_
          refine g_goto (tgt := 106) hC dX5_letGo_102 (by decide) ?_
          refine g_lv (lv' := [(0, .ref aM), (1, .int j1), (3, .int j3)]) [0, 1, 3] rfl ?_
          exact t106 k9 hk9 j1 j3 ((1 : Int32) <<< (j3 &&& 31)) j2 xM_thrown hf
      · replace hf := gd_f hc hf
        refine g_aload_n hC 0 dX5_letGo_30 rfl rfl ?_
        refine g_get (C := RX5) (T := TX5) (N := 28) (v := .ref aMtoldMinute) hC hinX5 0 21 rfl rfl (by decide) (List.mem_of_getElem? (i := 3) rfl) rfl dX5_letGo_31 ?_
        refine g_iload hC 5 dX5_letGo_34 rfl ?_
        obtain ⟨hg, hf⟩ := gd_ga hf
        refine g_iald hC 1 0 hg rfl rfl dX5_letGo_36 ?_
        refine g_iload_n hC 3 dX5_letGo_37 rfl rfl ?_
        refine g_icmp_ge (tgt := 45) hC dX5_letGo_38 (by decide) (fun hc => ?_) (fun hc => ?_)
        · replace hf := gd_t hc hf
          refine g_iconst (v := (0 : Int32)) hC dX5_letGo_45 ci_0 ?_
          exact t46 k9 hk9 k21 hk21 j1 j2 j3 j4 j5 (0 : Int32) xM_thrown hf
        · replace hf := gd_f hc hf
          refine g_iconst (v := (1 : Int32)) hC dX5_letGo_41 ci_1 ?_
          refine g_goto (tgt := 46) hC dX5_letGo_42 (by decide) ?_
          exact t46 k9 hk9 k21 hk21 j1 j2 j3 j4 j5 (1 : Int32) xM_thrown hf
  have t9 : ∀  (n : Nat) (j1 : Int32) (j2 : Int32) (j3 : Int32) (xM_thrown : Int32), lp (fun _ _ _ _ => none) (fX5_letGo_b9_S xM_told xMtoldMinute xMtoldHeard ) n j1 j2 j3 xM_thrown = some z → kG X 9 [(0, .ref aM), (1, .int j1), (2, .int j2), (3, .int j3)] [] [oO aM 4 [.int xM_thrown, .ref aMtext, .int xM_textSize, .int xM_place, .int xM_walkers, .int xM_light, .int xM_water, .ref aMnerve, .ref aMkind, .int xM_readWalkers, .int xM_readLight, .int xM_readWater, .ref aMreadNerve, .ref aMreadKind, .ref aMpage, .ref aMtrial, .ref aMbook, .int xM_acts, .ref aMkept, .ref aMisKept, .int xM_told, .ref aMtoldMinute, .ref aMtoldHeard, .long xM_seed, .int xM_orderBest, .int xM_orderMany, .ref aMworth, .int xM_turned], oI aMtoldMinute iMtoldMinute 6 xMtoldMinute, oI aMtoldHeard iMtoldHeard 6 xMtoldHeard] := by
    intro  n
    induction n with
    | zero => intro j1 j2 j3 xM_thrown hf; cases hf
    | succ n hk9 =>
      intro j1 j2 j3 xM_thrown hf
      rw [lp_s] at hf
      revert hf hk9
      generalize lp (fun _ _ _ _ => none) (fX5_letGo_b9_S xM_told xMtoldMinute xMtoldHeard ) n = k9
      intro hk9 hf
      unfold fX5_letGo_b9_S at hf
      refine g_iload_n hC 3 dX5_letGo_9 rfl rfl ?_
      refine g_bipush (v := (9 : Int32)) hC dX5_letGo_10 cb_9 ?_
      refine g_icmp_gt (tgt := 114) hC dX5_letGo_12 (by decide) (fun hc => ?_) (fun hc => ?_)
      · replace hf := gd_t hc hf
        refine g_iload_n hC 2 dX5_letGo_114 rfl rfl ?_
        exact hQ (j2, xM_thrown) _ _ (gd_s hf) dX5_letGo_115
      · replace hf := gd_f hc hf
        refine g_iconst (v := (1 : Int32)) hC dX5_letGo_15 ci_1 ?_
        refine g_istore (lv' := [(4, .int (1 : Int32)), (0, .ref aM), (1, .int j1), (2, .int j2), (3, .int j3)]) hC dX5_letGo_16 (by decide) rfl ?_
        refine g_iconst (v := (0 : Int32)) hC dX5_letGo_18 ci_0 ?_
        refine g_istore (lv' := [(5, .int (0 : Int32)), (4, .int (1 : Int32)), (0, .ref aM), (1, .int j1), (2, .int j2), (3, .int j3)]) hC dX5_letGo_19 (by decide) rfl ?_
        refine g_lv (lv' := [(0, .ref aM), (1, .int j1), (2, .int j2), (3, .int j3), (4, .int (1 : Int32)), (5, .int (0 : Int32))]) [2, 3, 4, 5, 1, 0] rfl ?_
        exact t21 k9 hk9 fu j1 j2 j3 (1 : Int32) (0 : Int32) xM_thrown hf
  unfold fX5_letGo at hf
  refine g_aload_n hC 0 dX5_letGo_0 rfl rfl ?_
  refine g_iconst (v := (0 : Int32)) hC dX5_letGo_1 ci_0 ?_
  refine g_put (C := RX5) (T := TX5) (N := 28) (ty := .int) (ws' := [oO aM 4 [.int (0 : Int32), .ref aMtext, .int xM_textSize, .int xM_place, .int xM_walkers, .int xM_light, .int xM_water, .ref aMnerve, .ref aMkind, .int xM_readWalkers, .int xM_readLight, .int xM_readWater, .ref aMreadNerve, .ref aMreadKind, .ref aMpage, .ref aMtrial, .ref aMbook, .int xM_acts, .ref aMkept, .ref aMisKept, .int xM_told, .ref aMtoldMinute, .ref aMtoldHeard, .long xM_seed, .int xM_orderBest, .int xM_orderMany, .ref aMworth, .int xM_turned], oI aMtoldMinute iMtoldMinute 6 xMtoldMinute, oI aMtoldHeard iMtoldHeard 6 xMtoldHeard]) hC tyX5_ok nmX5 hinX5 0 0 rfl rfl (by decide) (List.mem_of_getElem? (i := 1) rfl) rfl rfl rfl rfl (Nat.le_of_ble_eq_true rfl) dX5_letGo_2 rfl ?_
  refine g_iconst (v := (0 : Int32)) hC dX5_letGo_5 ci_0 ?_
  refine g_istore_n (lv' := [(2, .int (0 : Int32)), (0, .ref aM), (1, .int j1)]) hC dX5_letGo_6 rfl (by decide) rfl ?_
  refine g_iconst (v := (0 : Int32)) hC dX5_letGo_7 ci_0 ?_
  refine g_istore_n (lv' := [(3, .int (0 : Int32)), (2, .int (0 : Int32)), (0, .ref aM), (1, .int j1)]) hC dX5_letGo_8 rfl (by decide) rfl ?_
  refine g_lv (lv' := [(0, .ref aM), (1, .int j1), (2, .int (0 : Int32)), (3, .int (0 : Int32))]) [2, 3, 1, 0] rfl ?_
  exact t9  fu j1 (0 : Int32) (0 : Int32) (0 : Int32) hf
theorem kyX5_link : yX5_link.cls = RX5 ∧ yX5_link.cls ≠ "java/lang/invoke/MethodHandle" ∧ yX5_link.cls ≠ "java/lang/invoke/VarHandle" ∧ (parseMethodDescriptor yX5_link.desc).map (fun d => d.parameters.length) = some 4 := by decide +kernel
set_option maxHeartbeats 4000000 in
set_option maxRecDepth 100000 in
theorem cX5_link_m (l : Launch) (D : va_G) (aM aMtext aMnerve aMkind aMreadNerve aMreadKind aMpage aMtrial aMbook aMkept aMisKept aMtoldMinute aMtoldHeard aMworth : Nat) (xM_thrown : Int32) (xM_textSize : Int32) (xM_place : Int32) (xM_walkers : Int32) (xM_light : Int32) (xM_water : Int32) (xM_readWalkers : Int32) (xM_readLight : Int32) (xM_readWater : Int32) (xM_acts : Int32) (xM_told : Int32) (xM_seed : Int64) (xM_orderBest : Int32) (xM_orderMany : Int32) (xM_turned : Int32) (j1 : Int32) (j2 : Int32) (j3 : Int32) (j4 : Int32) (z : Int32 × Int32) (hf : fX5_link j1 j2 j3 j4 xM_thrown = some z) : ∀ sz : Nat, Met l yX5_link wsX5_link ({ frames := 2, cells := 0, slots := 0, locals := 47 } : Room) (kPre D [] [oO aM 4 [.int xM_thrown, .ref aMtext, .int xM_textSize, .int xM_place, .int xM_walkers, .int xM_light, .int xM_water, .ref aMnerve, .ref aMkind, .int xM_readWalkers, .int xM_readLight, .int xM_readWater, .ref aMreadNerve, .ref aMreadKind, .ref aMpage, .ref aMtrial, .ref aMbook, .int xM_acts, .ref aMkept, .ref aMisKept, .int xM_told, .ref aMtoldMinute, .ref aMtoldHeard, .long xM_seed, .int xM_orderBest, .int xM_orderMany, .ref aMworth, .int xM_turned]] sz [.ref aM, .int j1, .int j2, .int j3, .int j4]) (kQi D [] [oO aM 4 [.int xM_thrown, .ref aMtext, .int xM_textSize, .int xM_place, .int xM_walkers, .int xM_light, .int xM_water, .ref aMnerve, .ref aMkind, .int xM_readWalkers, .int xM_readLight, .int xM_readWater, .ref aMreadNerve, .ref aMreadKind, .ref aMpage, .ref aMtrial, .ref aMbook, .int xM_acts, .ref aMkept, .ref aMisKept, .int xM_told, .ref aMtoldMinute, .ref aMtoldHeard, .long xM_seed, .int xM_orderBest, .int xM_orderMany, .ref aMworth, .int xM_turned]] sz [oO aM 4 [.int z.2, .ref aMtext, .int xM_textSize, .int xM_place, .int xM_walkers, .int xM_light, .int xM_water, .ref aMnerve, .ref aMkind, .int xM_readWalkers, .int xM_readLight, .int xM_readWater, .ref aMreadNerve, .ref aMreadKind, .ref aMpage, .ref aMtrial, .ref aMbook, .int xM_acts, .ref aMkept, .ref aMisKept, .int xM_told, .ref aMtoldMinute, .ref aMtoldHeard, .long xM_seed, .int xM_orderBest, .int xM_orderMany, .ref aMworth, .int xM_turned]] z.1) 0 0 (va_A [oO aM 4 [.int xM_thrown, .ref aMtext, .int xM_textSize, .int xM_place, .int xM_walkers, .int xM_light, .int xM_water, .ref aMnerve, .ref aMkind, .int xM_readWalkers, .int xM_readLight, .int xM_readWater, .ref aMreadNerve, .ref aMreadKind, .ref aMpage, .ref aMtrial, .ref aMbook, .int xM_acts, .ref aMkept, .ref aMisKept, .int xM_told, .ref aMtoldMinute, .ref aMtoldHeard, .long xM_seed, .int xM_orderBest, .int xM_orderMany, .ref aMworth, .int xM_turned]] sz) := by
  refine kMet_i (own := RX5) z (fun u => u.1) (fun u => [oO aM 4 [.int u.2, .ref aMtext, .int xM_textSize, .int xM_place, .int xM_walkers, .int xM_light, .int xM_water, .ref aMnerve, .ref aMkind, .int xM_readWalkers, .int xM_readLight, .int xM_readWater, .ref aMreadNerve, .ref aMreadKind, .ref aMpage, .ref aMtrial, .ref aMbook, .int xM_acts, .ref aMkept, .ref aMisKept, .int xM_told, .ref aMtoldMinute, .ref aMtoldHeard, .long xM_seed, .int xM_orderBest, .int xM_orderMany, .ref aMworth, .int xM_turned]]) rfl (by decide) rfl ⟨rfl, rfl⟩ (Nat.le_of_ble_eq_true rfl) ?_
  intro X hXl hXD hC hQ
  subst hXl
  subst hXD
  change kG X 0 [(0, .ref aM), (1, .int j1), (2, .int j2), (3, .int j3), (4, .int j4)] [] [oO aM 4 [.int xM_thrown, .ref aMtext, .int xM_textSize, .int xM_place, .int xM_walkers, .int xM_light, .int xM_water, .ref aMnerve, .ref aMkind, .int xM_readWalkers, .int xM_readLight, .int xM_readWater, .ref aMreadNerve, .ref aMreadKind, .ref aMpage, .ref aMtrial, .ref aMbook, .int xM_acts, .ref aMkept, .ref aMisKept, .int xM_told, .ref aMtoldMinute, .ref aMtoldHeard, .long xM_seed, .int xM_orderBest, .int xM_orderMany, .ref aMworth, .int xM_turned]]
  have hinX5 : ∀ w ∈ wsX50, w ∈ wsX5_link := fun _ h => List.mem_cons_of_mem _ (List.mem_append_right _ h)
  have t156 : ∀ (k50 : Int32 → Int32 → Int32 → Int32 → Int32 → Int32 → Int32 → Option (Int32 × Int32)) (hk50 : ∀ (j1 : Int32) (j2 : Int32) (j3 : Int32) (j4 : Int32) (j5 : Int32) (j6 : Int32) (xM_thrown : Int32), k50 j1 j2 j3 j4 j5 j6 xM_thrown = some z → kG X 50 [(1, .int j1), (2, .int j2), (3, .int j3), (4, .int j4), (5, .int j5), (6, .int j6)] [] [oO aM 4 [.int xM_thrown, .ref aMtext, .int xM_textSize, .int xM_place, .int xM_walkers, .int xM_light, .int xM_water, .ref aMnerve, .ref aMkind, .int xM_readWalkers, .int xM_readLight, .int xM_readWater, .ref aMreadNerve, .ref aMreadKind, .ref aMpage, .ref aMtrial, .ref aMbook, .int xM_acts, .ref aMkept, .ref aMisKept, .int xM_told, .ref aMtoldMinute, .ref aMtoldHeard, .long xM_seed, .int xM_orderBest, .int xM_orderMany, .ref aMworth, .int xM_turned]]) (j1 : Int32) (j2 : Int32) (j3 : Int32) (j4 : Int32) (j6 : Int32) (y0 : Int32) (y1 : Int32) (xM_thrown : Int32), fX5_link_b156 k50 j1 j2 j3 j4 j6 y0 y1 xM_thrown = some z → kG X 156 [(1, .int j1), (2, .int j2), (3, .int j3), (4, .int j4), (6, .int j6)] [.int y0, .int y1] [oO aM 4 [.int xM_thrown, .ref aMtext, .int xM_textSize, .int xM_place, .int xM_walkers, .int xM_light, .int xM_water, .ref aMnerve, .ref aMkind, .int xM_readWalkers, .int xM_readLight, .int xM_readWater, .ref aMreadNerve, .ref aMreadKind, .ref aMpage, .ref aMtrial, .ref aMbook, .int xM_acts, .ref aMkept, .ref aMisKept, .int xM_told, .ref aMtoldMinute, .ref aMtoldHeard, .long xM_seed, .int xM_orderBest, .int xM_orderMany, .ref aMworth, .int xM_turned]] := by
    intro k50 hk50 j1 j2 j3 j4 j6 y0 y1 xM_thrown hf
    unfold fX5_link_b156 at hf
    refine g_iadd hC dX5_link_156 ?_
    refine g_istore (lv' := [(5, .int (y1 + y0)), (1, .int j1), (2, .int j2), (3, .int j3), (4, .int j4), (6, .int j6)]) hC dX5_link_157 (by decide) rfl ?_
    refine g_iinc (v := (j6 + (1 : Int32))) (lv' := [(6, .int (j6 + (1 : Int32))), (5, .int (y1 + y0)), (1, .int j1), (2, .int j2), (3, .int j3), (4, .int j4)]) hC 5 dX5_link_159 rfl (ii _ ci_1) (by decide) rfl ?_
    refine g_goto (tgt := 50) hC dX5_link_162 (by decide) ?_
    refine g_lv (lv' := [(1, .int j1), (2, .int j2), (3, .int j3), (4, .int j4), (5, .int (y1 + y0)), (6, .int (j6 + (1 : Int32)))]) [2, 3, 4, 5, 1, 0] rfl ?_
    exact hk50 j1 j2 j3 j4 (y1 + y0) (j6 + (1 : Int32)) xM_thrown hf
  have t135 : ∀ (k50 : Int32 → Int32 → Int32 → Int32 → Int32 → Int32 → Int32 → Option (Int32 × Int32)) (hk50 : ∀ (j1 : Int32) (j2 : Int32) (j3 : Int32) (j4 : Int32) (j5 : Int32) (j6 : Int32) (xM_thrown : Int32), k50 j1 j2 j3 j4 j5 j6 xM_thrown = some z → kG X 50 [(1, .int j1), (2, .int j2), (3, .int j3), (4, .int j4), (5, .int j5), (6, .int j6)] [] [oO aM 4 [.int xM_thrown, .ref aMtext, .int xM_textSize, .int xM_place, .int xM_walkers, .int xM_light, .int xM_water, .ref aMnerve, .ref aMkind, .int xM_readWalkers, .int xM_readLight, .int xM_readWater, .ref aMreadNerve, .ref aMreadKind, .ref aMpage, .ref aMtrial, .ref aMbook, .int xM_acts, .ref aMkept, .ref aMisKept, .int xM_told, .ref aMtoldMinute, .ref aMtoldHeard, .long xM_seed, .int xM_orderBest, .int xM_orderMany, .ref aMworth, .int xM_turned]]) (k70 : Int32 → Int32 → Int32 → Int32 → Int32 → Int32 → Int32 → Int32 → Int32 → Int32 → Int32 → Option (Int32 × Int32)) (hk70 : ∀ (j1 : Int32) (j2 : Int32) (j3 : Int32) (j4 : Int32) (j5 : Int32) (j6 : Int32) (j7 : Int32) (j8 : Int32) (j9 : Int32) (j10 : Int32) (xM_thrown : Int32), k70 j1 j2 j3 j4 j5 j6 j7 j8 j9 j10 xM_thrown = some z → kG X 70 [(1, .int j1), (2, .int j2), (3, .int j3), (4, .int j4), (5, .int j5), (6, .int j6), (7, .int j7), (8, .int j8), (9, .int j9), (10, .int j10)] [] [oO aM 4 [.int xM_thrown, .ref aMtext, .int xM_textSize, .int xM_place, .int xM_walkers, .int xM_light, .int xM_water, .ref aMnerve, .ref aMkind, .int xM_readWalkers, .int xM_readLight, .int xM_readWater, .ref aMreadNerve, .ref aMreadKind, .ref aMpage, .ref aMtrial, .ref aMbook, .int xM_acts, .ref aMkept, .ref aMisKept, .int xM_told, .ref aMtoldMinute, .ref aMtoldHeard, .long xM_seed, .int xM_orderBest, .int xM_orderMany, .ref aMworth, .int xM_turned]]) (j1 : Int32) (j2 : Int32) (j3 : Int32) (j4 : Int32) (j5 : Int32) (j6 : Int32) (j7 : Int32) (j8 : Int32) (j10 : Int32) (y0 : Int32) (xM_thrown : Int32), fX5_link_b135 k50 k70 j1 j2 j3 j4 j5 j6 j7 j8 j10 y0 xM_thrown = some z → kG X 135 [(1, .int j1), (2, .int j2), (3, .int j3), (4, .int j4), (5, .int j5), (6, .int j6), (7, .int j7), (8, .int j8), (10, .int j10)] [.int y0] [oO aM 4 [.int xM_thrown, .ref aMtext, .int xM_textSize, .int xM_place, .int xM_walkers, .int xM_light, .int xM_water, .ref aMnerve, .ref aMkind, .int xM_readWalkers, .int xM_readLight, .int xM_readWater, .ref aMreadNerve, .ref aMreadKind, .ref aMpage, .ref aMtrial, .ref aMbook, .int xM_acts, .ref aMkept, .ref aMisKept, .int xM_told, .ref aMtoldMinute, .ref aMtoldHeard, .long xM_seed, .int xM_orderBest, .int xM_orderMany, .ref aMworth, .int xM_turned]] := by
    intro k50 hk50 k70 hk70 j1 j2 j3 j4 j5 j6 j7 j8 j10 y0 xM_thrown hf
    unfold fX5_link_b135 at hf
    refine g_istore (lv' := [(9, .int y0), (1, .int j1), (2, .int j2), (3, .int j3), (4, .int j4), (5, .int j5), (6, .int j6), (7, .int j7), (8, .int j8), (10, .int j10)]) hC dX5_link_135 (by decide) rfl ?_
    refine g_iinc (v := (j10 + (1 : Int32))) (lv' := [(10, .int (j10 + (1 : Int32))), (9, .int y0), (1, .int j1), (2, .int j2), (3, .int j3), (4, .int j4), (5, .int j5), (6, .int j6), (7, .int j7), (8, .int j8)]) hC 9 dX5_link_137 rfl (ii _ ci_1) (by decide) rfl ?_
    refine g_goto (tgt := 70) hC dX5_link_140 (by decide) ?_
    refine g_lv (lv' := [(1, .int j1), (2, .int j2), (3, .int j3), (4, .int j4), (5, .int j5), (6, .int j6), (7, .int j7), (8, .int j8), (9, .int y0), (10, .int (j10 + (1 : Int32)))]) [2, 3, 4, 5, 6, 7, 8, 9, 1, 0] rfl ?_
    exact hk70 j1 j2 j3 j4 j5 j6 j7 j8 y0 (j10 + (1 : Int32)) xM_thrown hf
  have t134 : ∀ (k50 : Int32 → Int32 → Int32 → Int32 → Int32 → Int32 → Int32 → Option (Int32 × Int32)) (hk50 : ∀ (j1 : Int32) (j2 : Int32) (j3 : Int32) (j4 : Int32) (j5 : Int32) (j6 : Int32) (xM_thrown : Int32), k50 j1 j2 j3 j4 j5 j6 xM_thrown = some z → kG X 50 [(1, .int j1), (2, .int j2), (3, .int j3), (4, .int j4), (5, .int j5), (6, .int j6)] [] [oO aM 4 [.int xM_thrown, .ref aMtext, .int xM_textSize, .int xM_place, .int xM_walkers, .int xM_light, .int xM_water, .ref aMnerve, .ref aMkind, .int xM_readWalkers, .int xM_readLight, .int xM_readWater, .ref aMreadNerve, .ref aMreadKind, .ref aMpage, .ref aMtrial, .ref aMbook, .int xM_acts, .ref aMkept, .ref aMisKept, .int xM_told, .ref aMtoldMinute, .ref aMtoldHeard, .long xM_seed, .int xM_orderBest, .int xM_orderMany, .ref aMworth, .int xM_turned]]) (k70 : Int32 → Int32 → Int32 → Int32 → Int32 → Int32 → Int32 → Int32 → Int32 → Int32 → Int32 → Option (Int32 × Int32)) (hk70 : ∀ (j1 : Int32) (j2 : Int32) (j3 : Int32) (j4 : Int32) (j5 : Int32) (j6 : Int32) (j7 : Int32) (j8 : Int32) (j9 : Int32) (j10 : Int32) (xM_thrown : Int32), k70 j1 j2 j3 j4 j5 j6 j7 j8 j9 j10 xM_thrown = some z → kG X 70 [(1, .int j1), (2, .int j2), (3, .int j3), (4, .int j4), (5, .int j5), (6, .int j6), (7, .int j7), (8, .int j8), (9, .int j9), (10, .int j10)] [] [oO aM 4 [.int xM_thrown, .ref aMtext, .int xM_textSize, .int xM_place, .int xM_walkers, .int xM_light, .int xM_water, .ref aMnerve, .ref aMkind, .int xM_readWalkers, .int xM_readLight, .int xM_readWater, .ref aMreadNerve, .ref aMreadKind, .ref aMpage, .ref aMtrial, .ref aMbook, .int xM_acts, .ref aMkept, .ref aMisKept, .int xM_told, .ref aMtoldMinute, .ref aMtoldHeard, .long xM_seed, .int xM_orderBest, .int xM_orderMany, .ref aMworth, .int xM_turned]]) (j1 : Int32) (j2 : Int32) (j3 : Int32) (j4 : Int32) (j5 : Int32) (j6 : Int32) (j7 : Int32) (j8 : Int32) (j10 : Int32) (xM_thrown : Int32), fX5_link_b134 k50 k70 j1 j2 j3 j4 j5 j6 j7 j8 j10 xM_thrown = some z → kG X 134 [(1, .int j1), (2, .int j2), (3, .int j3), (4, .int j4), (5, .int j5), (6, .int j6), (7, .int j7), (8, .int j8), (10, .int j10)] [] [oO aM 4 [.int xM_thrown, .ref aMtext, .int xM_textSize, .int xM_place, .int xM_walkers, .int xM_light, .int xM_water, .ref aMnerve, .ref aMkind, .int xM_readWalkers, .int xM_readLight, .int xM_readWater, .ref aMreadNerve, .ref aMreadKind, .ref aMpage, .ref aMtrial, .ref aMbook, .int xM_acts, .ref aMkept, .ref aMisKept, .int xM_told, .ref aMtoldMinute, .ref aMtoldHeard, .long xM_seed, .int xM_orderBest, .int xM_orderMany, .ref aMworth, .int xM_turned]] := by
    intro k50 hk50 k70 hk70 j1 j2 j3 j4 j5 j6 j7 j8 j10 xM_thrown hf
    unfold fX5_link_b134 at hf
    refine g_iconst (v := (0 : Int32)) hC dX5_link_134 ci_0 ?_
    exact t135 k50 hk50 k70 hk70 j1 j2 j3 j4 j5 j6 j7 j8 j10 (0 : Int32) xM_thrown hf
  have t117 : ∀ (k50 : Int32 → Int32 → Int32 → Int32 → Int32 → Int32 → Int32 → Option (Int32 × Int32)) (hk50 : ∀ (j1 : Int32) (j2 : Int32) (j3 : Int32) (j4 : Int32) (j5 : Int32) (j6 : Int32) (xM_thrown : Int32), k50 j1 j2 j3 j4 j5 j6 xM_thrown = some z → kG X 50 [(1, .int j1), (2, .int j2), (3, .int j3), (4, .int j4), (5, .int j5), (6, .int j6)] [] [oO aM 4 [.int xM_thrown, .ref aMtext, .int xM_textSize, .int xM_place, .int xM_walkers, .int xM_light, .int xM_water, .ref aMnerve, .ref aMkind, .int xM_readWalkers, .int xM_readLight, .int xM_readWater, .ref aMreadNerve, .ref aMreadKind, .ref aMpage, .ref aMtrial, .ref aMbook, .int xM_acts, .ref aMkept, .ref aMisKept, .int xM_told, .ref aMtoldMinute, .ref aMtoldHeard, .long xM_seed, .int xM_orderBest, .int xM_orderMany, .ref aMworth, .int xM_turned]]) (k70 : Int32 → Int32 → Int32 → Int32 → Int32 → Int32 → Int32 → Int32 → Int32 → Int32 → Int32 → Option (Int32 × Int32)) (hk70 : ∀ (j1 : Int32) (j2 : Int32) (j3 : Int32) (j4 : Int32) (j5 : Int32) (j6 : Int32) (j7 : Int32) (j8 : Int32) (j9 : Int32) (j10 : Int32) (xM_thrown : Int32), k70 j1 j2 j3 j4 j5 j6 j7 j8 j9 j10 xM_thrown = some z → kG X 70 [(1, .int j1), (2, .int j2), (3, .int j3), (4, .int j4), (5, .int j5), (6, .int j6), (7, .int j7), (8, .int j8), (9, .int j9), (10, .int j10)] [] [oO aM 4 [.int xM_thrown, .ref aMtext, .int xM_textSize, .int xM_place, .int xM_walkers, .int xM_light, .int xM_water, .ref aMnerve, .ref aMkind, .int xM_readWalkers, .int xM_readLight, .int xM_readWater, .ref aMreadNerve, .ref aMreadKind, .ref aMpage, .ref aMtrial, .ref aMbook, .int xM_acts, .ref aMkept, .ref aMisKept, .int xM_told, .ref aMtoldMinute, .ref aMtoldHeard, .long xM_seed, .int xM_orderBest, .int xM_orderMany, .ref aMworth, .int xM_turned]]) (j1 : Int32) (j2 : Int32) (j3 : Int32) (j4 : Int32) (j5 : Int32) (j6 : Int32) (j7 : Int32) (j9 : Int32) (j10 : Int32) (y0 : Int32) (xM_thrown : Int32), fX5_link_b117 k50 k70 j1 j2 j3 j4 j5 j6 j7 j9 j10 y0 xM_thrown = some z → kG X 117 [(1, .int j1), (2, .int j2), (3, .int j3), (4, .int j4), (5, .int j5), (6, .int j6), (7, .int j7), (9, .int j9), (10, .int j10)] [.int y0] [oO aM 4 [.int xM_thrown, .ref aMtext, .int xM_textSize, .int xM_place, .int xM_walkers, .int xM_light, .int xM_water, .ref aMnerve, .ref aMkind, .int xM_readWalkers, .int xM_readLight, .int xM_readWater, .ref aMreadNerve, .ref aMreadKind, .ref aMpage, .ref aMtrial, .ref aMbook, .int xM_acts, .ref aMkept, .ref aMisKept, .int xM_told, .ref aMtoldMinute, .ref aMtoldHeard, .long xM_seed, .int xM_orderBest, .int xM_orderMany, .ref aMworth, .int xM_turned]] := by
    intro k50 hk50 k70 hk70 j1 j2 j3 j4 j5 j6 j7 j9 j10 y0 xM_thrown hf
    unfold fX5_link_b117 at hf
    refine g_istore (lv' := [(8, .int y0), (1, .int j1), (2, .int j2), (3, .int j3), (4, .int j4), (5, .int j5), (6, .int j6), (7, .int j7), (9, .int j9), (10, .int j10)]) hC dX5_link_117 (by decide) rfl ?_
    refine g_iload hC 8 dX5_link_119 rfl ?_
    refine g_if_eq (tgt := 134) hC dX5_link_121 (by decide) (fun hc => ?_) (fun hc => ?_)
    · replace hf := gd_t hc hf
      refine g_lv (lv' := [(1, .int j1), (2, .int j2), (3, .int j3), (4, .int j4), (5, .int j5), (6, .int j6), (7, .int j7), (8, .int y0), (10, .int j10)]) [1, 2, 3, 4, 5, 6, 7, 0, 9] rfl ?_
      exact t134 k50 hk50 k70 hk70 j1 j2 j3 j4 j5 j6 j7 y0 j10 xM_thrown hf
    · replace hf := gd_f hc hf
      refine g_iload hC 0 dX5_link_124 rfl ?_
      refine g_iload_n hC 1 dX5_link_126 rfl rfl ?_
      refine g_icmp_gt (tgt := 134) hC dX5_link_127 (by decide) (fun hc => ?_) (fun hc => ?_)
      · replace hf := gd_t hc hf
        refine g_lv (lv' := [(1, .int j1), (2, .int j2), (3, .int j3), (4, .int j4), (5, .int j5), (6, .int j6), (7, .int j7), (8, .int y0), (10, .int j10)]) [1, 2, 3, 4, 5, 6, 7, 0, 9] rfl ?_
        exact t134 k50 hk50 k70 hk70 j1 j2 j3 j4 j5 j6 j7 y0 j10 xM_thrown hf
      · replace hf := gd_f hc hf
        refine g_iconst (v := (1 : Int32)) hC dX5_link_130 ci_1 ?_
        refine g_goto (tgt := 135) hC dX5_link_131 (by decide) ?_
        refine g_lv (lv' := [(1, .int j1), (2, .int j2), (3, .int j3), (4, .int j4), (5, .int j5), (6, .int j6), (7, .int j7), (8, .int y0), (10, .int j10)]) [1, 2, 3, 4, 5, 6, 7, 0, 9] rfl ?_
        exact t135 k50 hk50 k70 hk70 j1 j2 j3 j4 j5 j6 j7 y0 j10 (1 : Int32) xM_thrown hf
  have t96 : ∀ (k50 : Int32 → Int32 → Int32 → Int32 → Int32 → Int32 → Int32 → Option (Int32 × Int32)) (hk50 : ∀ (j1 : Int32) (j2 : Int32) (j3 : Int32) (j4 : Int32) (j5 : Int32) (j6 : Int32) (xM_thrown : Int32), k50 j1 j2 j3 j4 j5 j6 xM_thrown = some z → kG X 50 [(1, .int j1), (2, .int j2), (3, .int j3), (4, .int j4), (5, .int j5), (6, .int j6)] [] [oO aM 4 [.int xM_thrown, .ref aMtext, .int xM_textSize, .int xM_place, .int xM_walkers, .int xM_light, .int xM_water, .ref aMnerve, .ref aMkind, .int xM_readWalkers, .int xM_readLight, .int xM_readWater, .ref aMreadNerve, .ref aMreadKind, .ref aMpage, .ref aMtrial, .ref aMbook, .int xM_acts, .ref aMkept, .ref aMisKept, .int xM_told, .ref aMtoldMinute, .ref aMtoldHeard, .long xM_seed, .int xM_orderBest, .int xM_orderMany, .ref aMworth, .int xM_turned]]) (k70 : Int32 → Int32 → Int32 → Int32 → Int32 → Int32 → Int32 → Int32 → Int32 → Int32 → Int32 → Option (Int32 × Int32)) (hk70 : ∀ (j1 : Int32) (j2 : Int32) (j3 : Int32) (j4 : Int32) (j5 : Int32) (j6 : Int32) (j7 : Int32) (j8 : Int32) (j9 : Int32) (j10 : Int32) (xM_thrown : Int32), k70 j1 j2 j3 j4 j5 j6 j7 j8 j9 j10 xM_thrown = some z → kG X 70 [(1, .int j1), (2, .int j2), (3, .int j3), (4, .int j4), (5, .int j5), (6, .int j6), (7, .int j7), (8, .int j8), (9, .int j9), (10, .int j10)] [] [oO aM 4 [.int xM_thrown, .ref aMtext, .int xM_textSize, .int xM_place, .int xM_walkers, .int xM_light, .int xM_water, .ref aMnerve, .ref aMkind, .int xM_readWalkers, .int xM_readLight, .int xM_readWater, .ref aMreadNerve, .ref aMreadKind, .ref aMpage, .ref aMtrial, .ref aMbook, .int xM_acts, .ref aMkept, .ref aMisKept, .int xM_told, .ref aMtoldMinute, .ref aMtoldHeard, .long xM_seed, .int xM_orderBest, .int xM_orderMany, .ref aMworth, .int xM_turned]]) (j1 : Int32) (j2 : Int32) (j3 : Int32) (j4 : Int32) (j5 : Int32) (j6 : Int32) (j8 : Int32) (j9 : Int32) (j10 : Int32) (y0 : Int32) (y1 : Int32) (xM_thrown : Int32), fX5_link_b96 k50 k70 j1 j2 j3 j4 j5 j6 j8 j9 j10 y0 y1 xM_thrown = some z → kG X 96 [(1, .int j1), (2, .int j2), (3, .int j3), (4, .int j4), (5, .int j5), (6, .int j6), (8, .int j8), (9, .int j9), (10, .int j10)] [.int y0, .int y1] [oO aM 4 [.int xM_thrown, .ref aMtext, .int xM_textSize, .int xM_place, .int xM_walkers, .int xM_light, .int xM_water, .ref aMnerve, .ref aMkind, .int xM_readWalkers, .int xM_readLight, .int xM_readWater, .ref aMreadNerve, .ref aMreadKind, .ref aMpage, .ref aMtrial, .ref aMbook, .int xM_acts, .ref aMkept, .ref aMisKept, .int xM_told, .ref aMtoldMinute, .ref aMtoldHeard, .long xM_seed, .int xM_orderBest, .int xM_orderMany, .ref aMworth, .int xM_turned]] := by
    intro k50 hk50 k70 hk70 j1 j2 j3 j4 j5 j6 j8 j9 j10 y0 y1 xM_thrown hf
    unfold fX5_link_b96 at hf
    refine g_imul hC dX5_link_96 ?_
    refine g_istore (lv' := [(7, .int (y1 * y0)), (1, .int j1), (2, .int j2), (3, .int j3), (4, .int j4), (5, .int j5), (6, .int j6), (8, .int j8), (9, .int j9), (10, .int j10)]) hC dX5_link_97 (by decide) rfl ?_
    refine g_iload hC 6 dX5_link_99 rfl ?_
    refine g_iload hC 9 dX5_link_101 rfl ?_
    obtain ⟨z103, hz103, hf⟩ := gd_b hf
    refine g_callSi (wr := [oO aM 4 [.int xM_thrown, .ref aMtext, .int xM_textSize, .int xM_place, .int xM_walkers, .int xM_light, .int xM_water, .ref aMnerve, .ref aMkind, .int xM_readWalkers, .int xM_readLight, .int xM_readWater, .ref aMreadNerve, .ref aMreadKind, .ref aMpage, .ref aMtrial, .ref aMbook, .int xM_acts, .ref aMkept, .ref aMisKept, .int xM_told, .ref aMtoldMinute, .ref aMtoldHeard, .long xM_seed, .int xM_orderBest, .int xM_orderMany, .ref aMworth, .int xM_turned]]) (wn := [oO aM 4 [.int xM_thrown, .ref aMtext, .int xM_textSize, .int xM_place, .int xM_walkers, .int xM_light, .int xM_water, .ref aMnerve, .ref aMkind, .int xM_readWalkers, .int xM_readLight, .int xM_readWater, .ref aMreadNerve, .ref aMreadKind, .ref aMpage, .ref aMtrial, .ref aMbook, .int xM_acts, .ref aMkept, .ref aMisKept, .int xM_told, .ref aMtoldMinute, .ref aMtoldHeard, .long xM_seed, .int xM_orderBest, .int xM_orderMany, .ref aMworth, .int xM_turned]]) hC [.int j6, .int j10] (cX5_has_m (kl X) (kD X) j6 j10 z103 hz103) gX5_link_X5_has rfl kyX5_has rfl [] [0] [] [0] rfl rfl rfl rfl (by decide) rfl rfl rfl ⟨rfl, rfl⟩ ⟨Nat.le_of_ble_eq_true rfl, Nat.le_of_ble_eq_true rfl⟩ (Nat.le_of_ble_eq_true rfl) rfl dX5_link_103 ?_
    refine g_if_eq (tgt := 113) hC dX5_link_106 (by decide) (fun hc => ?_) (fun hc => ?_)
    · replace hf := gd_t hc hf
      refine g_iload hC 7 dX5_link_113 rfl ?_
      refine g_iconst (v := (1 : Int32)) hC dX5_link_115 ci_1 ?_
      refine g_iadd hC dX5_link_116 ?_
      refine g_lv (lv' := [(1, .int j1), (2, .int j2), (3, .int j3), (4, .int j4), (5, .int j5), (6, .int j6), (7, .int (y1 * y0)), (9, .int j9), (10, .int j10)]) [1, 2, 3, 4, 5, 6, 0, 8, 9] rfl ?_
      exact t117 k50 hk50 k70 hk70 j1 j2 j3 j4 j5 j6 (y1 * y0) j9 j10 (j8 + (1 : Int32)) xM_thrown hf
    · replace hf := gd_f hc hf
      refine g_iconst (v := (0 : Int32)) hC dX5_link_109 ci_0 ?_
      refine g_goto (tgt := 117) hC dX5_link_110 (by decide) ?_
      refine g_lv (lv' := [(1, .int j1), (2, .int j2), (3, .int j3), (4, .int j4), (5, .int j5), (6, .int j6), (7, .int (y1 * y0)), (9, .int j9), (10, .int j10)]) [1, 2, 3, 4, 5, 6, 0, 8, 9] rfl ?_
      exact t117 k50 hk50 k70 hk70 j1 j2 j3 j4 j5 j6 (y1 * y0) j9 j10 (0 : Int32) xM_thrown hf
  have t70 : ∀ (k50 : Int32 → Int32 → Int32 → Int32 → Int32 → Int32 → Int32 → Option (Int32 × Int32)) (hk50 : ∀ (j1 : Int32) (j2 : Int32) (j3 : Int32) (j4 : Int32) (j5 : Int32) (j6 : Int32) (xM_thrown : Int32), k50 j1 j2 j3 j4 j5 j6 xM_thrown = some z → kG X 50 [(1, .int j1), (2, .int j2), (3, .int j3), (4, .int j4), (5, .int j5), (6, .int j6)] [] [oO aM 4 [.int xM_thrown, .ref aMtext, .int xM_textSize, .int xM_place, .int xM_walkers, .int xM_light, .int xM_water, .ref aMnerve, .ref aMkind, .int xM_readWalkers, .int xM_readLight, .int xM_readWater, .ref aMreadNerve, .ref aMreadKind, .ref aMpage, .ref aMtrial, .ref aMbook, .int xM_acts, .ref aMkept, .ref aMisKept, .int xM_told, .ref aMtoldMinute, .ref aMtoldHeard, .long xM_seed, .int xM_orderBest, .int xM_orderMany, .ref aMworth, .int xM_turned]]) (n : Nat) (j1 : Int32) (j2 : Int32) (j3 : Int32) (j4 : Int32) (j5 : Int32) (j6 : Int32) (j7 : Int32) (j8 : Int32) (j9 : Int32) (j10 : Int32) (xM_thrown : Int32), lp (fun _ _ _ _ _ _ _ _ _ _ _ => none) (fX5_link_b70_S k50) n j1 j2 j3 j4 j5 j6 j7 j8 j9 j10 xM_thrown = some z → kG X 70 [(1, .int j1), (2, .int j2), (3, .int j3), (4, .int j4), (5, .int j5), (6, .int j6), (7, .int j7), (8, .int j8), (9, .int j9), (10, .int j10)] [] [oO aM 4 [.int xM_thrown, .ref aMtext, .int xM_textSize, .int xM_place, .int xM_walkers, .int xM_light, .int xM_water, .ref aMnerve, .ref aMkind, .int xM_readWalkers, .int xM_readLight, .int xM_readWater, .ref aMreadNerve, .ref aMreadKind, .ref aMpage, .ref aMtrial, .ref aMbook, .int xM_acts, .ref aMkept, .ref aMisKept, .int xM_told, .ref aMtoldMinute, .ref aMtoldHeard, .long xM_seed, .int xM_orderBest, .int xM_orderMany, .ref aMworth, .int xM_turned]] := by
    intro k50 hk50 n
    induction n with
    | zero => intro j1 j2 j3 j4 j5 j6 j7 j8 j9 j10 xM_thrown hf; cases hf
    | succ n hk70 =>
      intro j1 j2 j3 j4 j5 j6 j7 j8 j9 j10 xM_thrown hf
      rw [lp_s] at hf
      revert hf hk70
      generalize lp (fun _ _ _ _ _ _ _ _ _ _ _ => none) (fX5_link_b70_S k50) n = k70
      intro hk70 hf
      unfold fX5_link_b70_S at hf
      refine g_iload hC 9 dX5_link_70 rfl ?_
      refine g_iload_n hC 2 dX5_link_72 rfl rfl ?_
      refine g_icmp_ge (tgt := 143) hC dX5_link_73 (by decide) (fun hc => ?_) (fun hc => ?_)
      · replace hf := gd_t hc hf
        refine g_iload hC 4 dX5_link_143 rfl ?_
        refine g_iload hC 8 dX5_link_145 rfl ?_
        refine g_if_eq (tgt := 155) hC dX5_link_147 (by decide) (fun hc => ?_) (fun hc => ?_)
        · replace hf := gd_t hc hf
          refine g_iconst (v := (0 : Int32)) hC dX5_link_155 ci_0 ?_
          refine g_lv (lv' := [(1, .int j1), (2, .int j2), (3, .int j3), (4, .int j4), (6, .int j6)]) [0, 1, 2, 3, 5] rfl ?_
          exact t156 k50 hk50 j1 j2 j3 j4 j6 (0 : Int32) j5 xM_thrown hf
        · replace hf := gd_f hc hf
          refine g_iload hC 6 dX5_link_150 rfl ?_
          refine g_goto (tgt := 156) hC dX5_link_152 (by decide) ?_
          refine g_lv (lv' := [(1, .int j1), (2, .int j2), (3, .int j3), (4, .int j4), (6, .int j6)]) [0, 1, 2, 3, 5] rfl ?_
          exact t156 k50 hk50 j1 j2 j3 j4 j6 j7 j5 xM_thrown hf
      · replace hf := gd_f hc hf
        refine g_iload hC 6 dX5_link_76 rfl ?_
        refine g_iload hC 5 dX5_link_78 rfl ?_
        refine g_iload hC 9 dX5_link_80 rfl ?_
        obtain ⟨z82, hz82, hf⟩ := gd_b hf
        refine g_callSi (wr := [oO aM 4 [.int xM_thrown, .ref aMtext, .int xM_textSize, .int xM_place, .int xM_walkers, .int xM_light, .int xM_water, .ref aMnerve, .ref aMkind, .int xM_readWalkers, .int xM_readLight, .int xM_readWater, .ref aMreadNerve, .ref aMreadKind, .ref aMpage, .ref aMtrial, .ref aMbook, .int xM_acts, .ref aMkept, .ref aMisKept, .int xM_told, .ref aMtoldMinute, .ref aMtoldHeard, .long xM_seed, .int xM_orderBest, .int xM_orderMany, .ref aMworth, .int xM_turned]]) (wn := [oO aM 4 [.int xM_thrown, .ref aMtext, .int xM_textSize, .int xM_place, .int xM_walkers, .int xM_light, .int xM_water, .ref aMnerve, .ref aMkind, .int xM_readWalkers, .int xM_readLight, .int xM_readWater, .ref aMreadNerve, .ref aMreadKind, .ref aMpage, .ref aMtrial, .ref aMbook, .int xM_acts, .ref aMkept, .ref aMisKept, .int xM_told, .ref aMtoldMinute, .ref aMtoldHeard, .long xM_seed, .int xM_orderBest, .int xM_orderMany, .ref aMworth, .int xM_turned]]) hC [.int j6, .int j10] (cX5_has_m (kl X) (kD X) j6 j10 z82 hz82) gX5_link_X5_has rfl kyX5_has rfl [] [0] [] [0] rfl rfl rfl rfl (by decide) rfl rfl rfl ⟨rfl, rfl⟩ ⟨Nat.le_of_ble_eq_true rfl, Nat.le_of_ble_eq_true rfl⟩ (Nat.le_of_ble_eq_true rfl) rfl dX5_link_82 ?_
        refine g_if_eq (tgt := 92) hC dX5_link_85 (by decide) (fun hc => ?_) (fun hc => ?_)
        · replace hf := gd_t hc hf
          refine g_bipush (v := (10 : Int32)) hC dX5_link_92 cb_10 ?_
          refine g_iload_n hC 1 dX5_link_94 rfl rfl ?_
          refine g_isub hC dX5_link_95 ?_
          refine g_lv (lv' := [(1, .int j1), (2, .int j2), (3, .int j3), (4, .int j4), (5, .int j5), (6, .int j6), (8, .int j8), (9, .int j9), (10, .int j10)]) [0, 1, 2, 3, 4, 5, 7, 8, 9] rfl ?_
          exact t96 k50 hk50 k70 hk70 j1 j2 j3 j4 j5 j6 j8 j9 j10 ((10 : Int32) - j2) j7 xM_thrown hf
        · replace hf := gd_f hc hf
          refine g_iload_n hC 1 dX5_link_88 rfl rfl ?_
          refine g_goto (tgt := 96) hC dX5_link_89 (by decide) ?_
          refine g_lv (lv' := [(1, .int j1), (2, .int j2), (3, .int j3), (4, .int j4), (5, .int j5), (6, .int j6), (8, .int j8), (9, .int j9), (10, .int j10)]) [0, 1, 2, 3, 4, 5, 7, 8, 9] rfl ?_
          exact t96 k50 hk50 k70 hk70 j1 j2 j3 j4 j5 j6 j8 j9 j10 j2 j7 xM_thrown hf
  have t50 : ∀  (n : Nat) (j1 : Int32) (j2 : Int32) (j3 : Int32) (j4 : Int32) (j5 : Int32) (j6 : Int32) (xM_thrown : Int32), lp (fun _ _ _ _ _ _ _ => none) (fX5_link_b50_S ) n j1 j2 j3 j4 j5 j6 xM_thrown = some z → kG X 50 [(1, .int j1), (2, .int j2), (3, .int j3), (4, .int j4), (5, .int j5), (6, .int j6)] [] [oO aM 4 [.int xM_thrown, .ref aMtext, .int xM_textSize, .int xM_place, .int xM_walkers, .int xM_light, .int xM_water, .ref aMnerve, .ref aMkind, .int xM_readWalkers, .int xM_readLight, .int xM_readWater, .ref aMreadNerve, .ref aMreadKind, .ref aMpage, .ref aMtrial, .ref aMbook, .int xM_acts, .ref aMkept, .ref aMisKept, .int xM_told, .ref aMtoldMinute, .ref aMtoldHeard, .long xM_seed, .int xM_orderBest, .int xM_orderMany, .ref aMworth, .int xM_turned]] := by
    intro  n
    induction n with
    | zero => intro j1 j2 j3 j4 j5 j6 xM_thrown hf; cases hf
    | succ n hk50 =>
      intro j1 j2 j3 j4 j5 j6 xM_thrown hf
      rw [lp_s] at hf
      revert hf hk50
      generalize lp (fun _ _ _ _ _ _ _ => none) (fX5_link_b50_S ) n = k50
      intro hk50 hf
      unfold fX5_link_b50_S at hf
      refine g_iload hC 5 dX5_link_50 rfl ?_
      refine g_iconst (v := (1 : Int32)) hC dX5_link_52 ci_1 ?_
      refine g_iload_n hC 2 dX5_link_53 rfl rfl ?_
      refine g_ishl hC dX5_link_54 ?_
      refine g_icmp_ge (tgt := 165) hC dX5_link_55 (by decide) (fun hc => ?_) (fun hc => ?_)
      · replace hf := gd_t hc hf
        refine g_iload hC 4 dX5_link_165 rfl ?_
        refine g_iload_n hC 2 dX5_link_167 rfl rfl ?_
        obtain ⟨z168, hz168, hf⟩ := gd_b hf
        refine g_callSi (wr := [oO aM 4 [.int xM_thrown, .ref aMtext, .int xM_textSize, .int xM_place, .int xM_walkers, .int xM_light, .int xM_water, .ref aMnerve, .ref aMkind, .int xM_readWalkers, .int xM_readLight, .int xM_readWater, .ref aMreadNerve, .ref aMreadKind, .ref aMpage, .ref aMtrial, .ref aMbook, .int xM_acts, .ref aMkept, .ref aMisKept, .int xM_told, .ref aMtoldMinute, .ref aMtoldHeard, .long xM_seed, .int xM_orderBest, .int xM_orderMany, .ref aMworth, .int xM_turned]]) (wn := [oO aM 4 [.int xM_thrown, .ref aMtext, .int xM_textSize, .int xM_place, .int xM_walkers, .int xM_light, .int xM_water, .ref aMnerve, .ref aMkind, .int xM_readWalkers, .int xM_readLight, .int xM_readWater, .ref aMreadNerve, .ref aMreadKind, .ref aMpage, .ref aMtrial, .ref aMbook, .int xM_acts, .ref aMkept, .ref aMisKept, .int xM_told, .ref aMtoldMinute, .ref aMtoldHeard, .long xM_seed, .int xM_orderBest, .int xM_orderMany, .ref aMworth, .int xM_turned]]) hC [.int j3] (cX5_ten_m (kl X) (kD X) j3 z168 hz168) gX5_link_X5_ten rfl kyX5_ten rfl [] [0] [] [0] rfl rfl rfl rfl (by decide) rfl rfl rfl ⟨rfl, rfl⟩ ⟨Nat.le_of_ble_eq_true rfl, Nat.le_of_ble_eq_true rfl⟩ (Nat.le_of_ble_eq_true rfl) rfl dX5_link_168 ?_
        refine g_iload hC 3 dX5_link_171 rfl ?_
        obtain ⟨z173, hz173, hf⟩ := gd_b hf
        refine g_callSi (wr := [oO aM 4 [.int xM_thrown, .ref aMtext, .int xM_textSize, .int xM_place, .int xM_walkers, .int xM_light, .int xM_water, .ref aMnerve, .ref aMkind, .int xM_readWalkers, .int xM_readLight, .int xM_readWater, .ref aMreadNerve, .ref aMreadKind, .ref aMpage, .ref aMtrial, .ref aMbook, .int xM_acts, .ref aMkept, .ref aMisKept, .int xM_told, .ref aMtoldMinute, .ref aMtoldHeard, .long xM_seed, .int xM_orderBest, .int xM_orderMany, .ref aMworth, .int xM_turned]]) (wn := [oO aM 4 [.int xM_thrown, .ref aMtext, .int xM_textSize, .int xM_place, .int xM_walkers, .int xM_light, .int xM_water, .ref aMnerve, .ref aMkind, .int xM_readWalkers, .int xM_readLight, .int xM_readWater, .ref aMreadNerve, .ref aMreadKind, .ref aMpage, .ref aMtrial, .ref aMbook, .int xM_acts, .ref aMkept, .ref aMisKept, .int xM_told, .ref aMtoldMinute, .ref aMtoldHeard, .long xM_seed, .int xM_orderBest, .int xM_orderMany, .ref aMworth, .int xM_turned]]) hC [.int j5, .int z168, .int j4] (cX5_fraction_m (kl X) (kD X) j5 z168 j4 z173 hz173) gX5_link_X5_fraction rfl kyX5_fraction rfl [] [0] [] [0] rfl rfl rfl rfl (by decide) rfl rfl rfl ⟨rfl, rfl⟩ ⟨Nat.le_of_ble_eq_true rfl, Nat.le_of_ble_eq_true rfl⟩ (Nat.le_of_ble_eq_true rfl) rfl dX5_link_173 ?_
        exact hQ (z173, xM_thrown) _ _ (gd_s hf) dX5_link_176
      · replace hf := gd_f hc hf
        refine g_iconst (v := (1 : Int32)) hC dX5_link_58 ci_1 ?_
        refine g_istore (lv' := [(7, .int (1 : Int32)), (1, .int j1), (2, .int j2), (3, .int j3), (4, .int j4), (5, .int j5), (6, .int j6)]) hC dX5_link_59 (by decide) rfl ?_
        refine g_iconst (v := (0 : Int32)) hC dX5_link_61 ci_0 ?_
        refine g_istore (lv' := [(8, .int (0 : Int32)), (7, .int (1 : Int32)), (1, .int j1), (2, .int j2), (3, .int j3), (4, .int j4), (5, .int j5), (6, .int j6)]) hC dX5_link_62 (by decide) rfl ?_
        refine g_iconst (v := (1 : Int32)) hC dX5_link_64 ci_1 ?_
        refine g_istore (lv' := [(9, .int (1 : Int32)), (8, .int (0 : Int32)), (7, .int (1 : Int32)), (1, .int j1), (2, .int j2), (3, .int j3), (4, .int j4), (5, .int j5), (6, .int j6)]) hC dX5_link_65 (by decide) rfl ?_
        refine g_iconst (v := (0 : Int32)) hC dX5_link_67 ci_0 ?_
        refine g_istore (lv' := [(10, .int (0 : Int32)), (9, .int (1 : Int32)), (8, .int (0 : Int32)), (7, .int (1 : Int32)), (1, .int j1), (2, .int j2), (3, .int j3), (4, .int j4), (5, .int j5), (6, .int j6)]) hC dX5_link_68 (by decide) rfl ?_
        refine g_lv (lv' := [(1, .int j1), (2, .int j2), (3, .int j3), (4, .int j4), (5, .int j5), (6, .int j6), (7, .int (1 : Int32)), (8, .int (0 : Int32)), (9, .int (1 : Int32)), (10, .int (0 : Int32))]) [4, 5, 6, 7, 8, 9, 3, 2, 1, 0] rfl ?_
        exact t70 k50 hk50 fu j1 j2 j3 j4 j5 j6 (1 : Int32) (0 : Int32) (1 : Int32) (0 : Int32) xM_thrown hf
  unfold fX5_link at hf
  refine g_aload_n hC 0 dX5_link_0 rfl rfl ?_
  refine g_iconst (v := (0 : Int32)) hC dX5_link_1 ci_0 ?_
  refine g_put (C := RX5) (T := TX5) (N := 28) (ty := .int) (ws' := [oO aM 4 [.int (0 : Int32), .ref aMtext, .int xM_textSize, .int xM_place, .int xM_walkers, .int xM_light, .int xM_water, .ref aMnerve, .ref aMkind, .int xM_readWalkers, .int xM_readLight, .int xM_readWater, .ref aMreadNerve, .ref aMreadKind, .ref aMpage, .ref aMtrial, .ref aMbook, .int xM_acts, .ref aMkept, .ref aMisKept, .int xM_told, .ref aMtoldMinute, .ref aMtoldHeard, .long xM_seed, .int xM_orderBest, .int xM_orderMany, .ref aMworth, .int xM_turned]]) hC tyX5_ok nmX5 hinX5 0 0 rfl rfl (by decide) (List.mem_of_getElem? (i := 1) rfl) rfl rfl rfl rfl (Nat.le_of_ble_eq_true rfl) dX5_link_2 rfl ?_
  refine g_iload_n hC 1 dX5_link_5 rfl rfl ?_
  refine g_i2l hC dX5_link_6 ?_
  refine g_lconst (v := (0 : Int64)) hC dX5_link_7 rfl ?_
  refine g_ldc2 (v := (5 : Int64)) hC dX5_link_8 (List.mem_of_getElem? (i := 2) rfl) ?_
  obtain ⟨z11, hz11, hf⟩ := gd_b hf
  refine g_callSi (wr := [oO aM 4 [.int (0 : Int32), .ref aMtext, .int xM_textSize, .int xM_place, .int xM_walkers, .int xM_light, .int xM_water, .ref aMnerve, .ref aMkind, .int xM_readWalkers, .int xM_readLight, .int xM_readWater, .ref aMreadNerve, .ref aMreadKind, .ref aMpage, .ref aMtrial, .ref aMbook, .int xM_acts, .ref aMkept, .ref aMisKept, .int xM_told, .ref aMtoldMinute, .ref aMtoldHeard, .long xM_seed, .int xM_orderBest, .int xM_orderMany, .ref aMworth, .int xM_turned]]) (wn := [oO aM 4 [.int (0 : Int32), .ref aMtext, .int xM_textSize, .int xM_place, .int xM_walkers, .int xM_light, .int xM_water, .ref aMnerve, .ref aMkind, .int xM_readWalkers, .int xM_readLight, .int xM_readWater, .ref aMreadNerve, .ref aMreadKind, .ref aMpage, .ref aMtrial, .ref aMbook, .int xM_acts, .ref aMkept, .ref aMisKept, .int xM_told, .ref aMtoldMinute, .ref aMtoldHeard, .long xM_seed, .int xM_orderBest, .int xM_orderMany, .ref aMworth, .int xM_turned]]) hC [.long j1.toInt64, .long (0 : Int64), .long (5 : Int64)] (cX5_in_m (kl X) (kD X) j1.toInt64 (0 : Int64) (5 : Int64) z11 hz11) gX5_link_X5_in rfl kyX5_in rfl [] [0] [] [0] rfl rfl rfl rfl (by decide) rfl rfl rfl ⟨rfl, rfl⟩ ⟨Nat.le_of_ble_eq_true rfl, Nat.le_of_ble_eq_true rfl⟩ (Nat.le_of_ble_eq_true rfl) rfl dX5_link_11 ?_
  refine g_if_eq (tgt := 41) hC dX5_link_14 (by decide) (fun hc => ?_) (fun hc => ?_)
  · replace hf := gd_t hc hf
    refine g_bipush (v := (-2 : Int32)) hC dX5_link_41 cb_m2 ?_
    exact hQ ((-2 : Int32), (0 : Int32)) _ _ (gd_s hf) dX5_link_43
  · replace hf := gd_f hc hf
    refine g_iload_n hC 2 dX5_link_17 rfl rfl ?_
    refine g_i2l hC dX5_link_18 ?_
    refine g_lconst (v := (0 : Int64)) hC dX5_link_19 rfl ?_
    refine g_ldc2 (v := (10 : Int64)) hC dX5_link_20 (List.mem_of_getElem? (i := 3) rfl) ?_
    obtain ⟨z23, hz23, hf⟩ := gd_b hf
    refine g_callSi (wr := [oO aM 4 [.int (0 : Int32), .ref aMtext, .int xM_textSize, .int xM_place, .int xM_walkers, .int xM_light, .int xM_water, .ref aMnerve, .ref aMkind, .int xM_readWalkers, .int xM_readLight, .int xM_readWater, .ref aMreadNerve, .ref aMreadKind, .ref aMpage, .ref aMtrial, .ref aMbook, .int xM_acts, .ref aMkept, .ref aMisKept, .int xM_told, .ref aMtoldMinute, .ref aMtoldHeard, .long xM_seed, .int xM_orderBest, .int xM_orderMany, .ref aMworth, .int xM_turned]]) (wn := [oO aM 4 [.int (0 : Int32), .ref aMtext, .int xM_textSize, .int xM_place, .int xM_walkers, .int xM_light, .int xM_water, .ref aMnerve, .ref aMkind, .int xM_readWalkers, .int xM_readLight, .int xM_readWater, .ref aMreadNerve, .ref aMreadKind, .ref aMpage, .ref aMtrial, .ref aMbook, .int xM_acts, .ref aMkept, .ref aMisKept, .int xM_told, .ref aMtoldMinute, .ref aMtoldHeard, .long xM_seed, .int xM_orderBest, .int xM_orderMany, .ref aMworth, .int xM_turned]]) hC [.long j2.toInt64, .long (0 : Int64), .long (10 : Int64)] (cX5_in_m (kl X) (kD X) j2.toInt64 (0 : Int64) (10 : Int64) z23 hz23) gX5_link_X5_in rfl kyX5_in rfl [] [0] [] [0] rfl rfl rfl rfl (by decide) rfl rfl rfl ⟨rfl, rfl⟩ ⟨Nat.le_of_ble_eq_true rfl, Nat.le_of_ble_eq_true rfl⟩ (Nat.le_of_ble_eq_true rfl) rfl dX5_link_23 ?_
    refine g_if_eq (tgt := 41) hC dX5_link_26 (by decide) (fun hc => ?_) (fun hc => ?_)
    · replace hf := gd_t hc hf
      refine g_bipush (v := (-2 : Int32)) hC dX5_link_41 cb_m2 ?_
      exact hQ ((-2 : Int32), (0 : Int32)) _ _ (gd_s hf) dX5_link_43
    · replace hf := gd_f hc hf
      refine g_iload_n hC 3 dX5_link_29 rfl rfl ?_
      refine g_i2l hC dX5_link_30 ?_
      refine g_lconst (v := (0 : Int64)) hC dX5_link_31 rfl ?_
      refine g_ldc2 (v := (6 : Int64)) hC dX5_link_32 (List.mem_of_getElem? (i := 4) rfl) ?_
      obtain ⟨z35, hz35, hf⟩ := gd_b hf
      refine g_callSi (wr := [oO aM 4 [.int (0 : Int32), .ref aMtext, .int xM_textSize, .int xM_place, .int xM_walkers, .int xM_light, .int xM_water, .ref aMnerve, .ref aMkind, .int xM_readWalkers, .int xM_readLight, .int xM_readWater, .ref aMreadNerve, .ref aMreadKind, .ref aMpage, .ref aMtrial, .ref aMbook, .int xM_acts, .ref aMkept, .ref aMisKept, .int xM_told, .ref aMtoldMinute, .ref aMtoldHeard, .long xM_seed, .int xM_orderBest, .int xM_orderMany, .ref aMworth, .int xM_turned]]) (wn := [oO aM 4 [.int (0 : Int32), .ref aMtext, .int xM_textSize, .int xM_place, .int xM_walkers, .int xM_light, .int xM_water, .ref aMnerve, .ref aMkind, .int xM_readWalkers, .int xM_readLight, .int xM_readWater, .ref aMreadNerve, .ref aMreadKind, .ref aMpage, .ref aMtrial, .ref aMbook, .int xM_acts, .ref aMkept, .ref aMisKept, .int xM_told, .ref aMtoldMinute, .ref aMtoldHeard, .long xM_seed, .int xM_orderBest, .int xM_orderMany, .ref aMworth, .int xM_turned]]) hC [.long j3.toInt64, .long (0 : Int64), .long (6 : Int64)] (cX5_in_m (kl X) (kD X) j3.toInt64 (0 : Int64) (6 : Int64) z35 hz35) gX5_link_X5_in rfl kyX5_in rfl [] [0] [] [0] rfl rfl rfl rfl (by decide) rfl rfl rfl ⟨rfl, rfl⟩ ⟨Nat.le_of_ble_eq_true rfl, Nat.le_of_ble_eq_true rfl⟩ (Nat.le_of_ble_eq_true rfl) rfl dX5_link_35 ?_
      refine g_if_ne (tgt := 44) hC dX5_link_38 (by decide) (fun hc => ?_) (fun hc => ?_)
      · replace hf := gd_f hc hf
        refine g_iconst (v := (0 : Int32)) hC dX5_link_44 ci_0 ?_
        refine g_istore (lv' := [(5, .int (0 : Int32)), (0, .ref aM), (1, .int j1), (2, .int j2), (3, .int j3), (4, .int j4)]) hC dX5_link_45 (by decide) rfl ?_
        refine g_iconst (v := (0 : Int32)) hC dX5_link_47 ci_0 ?_
        refine g_istore (lv' := [(6, .int (0 : Int32)), (5, .int (0 : Int32)), (0, .ref aM), (1, .int j1), (2, .int j2), (3, .int j3), (4, .int j4)]) hC dX5_link_48 (by decide) rfl ?_
        refine g_lv (lv' := [(1, .int j1), (2, .int j2), (3, .int j3), (4, .int j4), (5, .int (0 : Int32)), (6, .int (0 : Int32))]) [3, 4, 5, 6, 1, 0] rfl ?_
        exact t50  fu j1 j2 j3 j4 (0 : Int32) (0 : Int32) (0 : Int32) hf
      · replace hf := gd_t hc hf
        refine g_bipush (v := (-2 : Int32)) hC dX5_link_41 cb_m2 ?_
        exact hQ ((-2 : Int32), (0 : Int32)) _ _ (gd_s hf) dX5_link_43
theorem kyX5_seed : yX5_seed.cls = RX5 ∧ yX5_seed.cls ≠ "java/lang/invoke/MethodHandle" ∧ yX5_seed.cls ≠ "java/lang/invoke/VarHandle" ∧ (parseMethodDescriptor yX5_seed.desc).map (fun d => d.parameters.length) = some 1 := by decide +kernel
set_option maxHeartbeats 4000000 in
set_option maxRecDepth 100000 in
theorem cX5_seed_m (l : Launch) (D : va_G) (aM aMtext aMnerve aMkind aMreadNerve aMreadKind aMpage aMtrial aMbook aMkept aMisKept aMtoldMinute aMtoldHeard aMworth : Nat) (xM_thrown : Int32) (xM_textSize : Int32) (xM_place : Int32) (xM_walkers : Int32) (xM_light : Int32) (xM_water : Int32) (xM_readWalkers : Int32) (xM_readLight : Int32) (xM_readWater : Int32) (xM_acts : Int32) (xM_told : Int32) (xM_seed : Int64) (xM_orderBest : Int32) (xM_orderMany : Int32) (xM_turned : Int32) (j1 : Int64) (z : Int64 × Int32 × Int64) (hf : fX5_seed j1 xM_thrown xM_seed = some z) : ∀ sz : Nat, Met l yX5_seed wsX5_seed ({ frames := 0, cells := 0, slots := 0, locals := 0 } : Room) (kPre D [] [oO aM 4 [.int xM_thrown, .ref aMtext, .int xM_textSize, .int xM_place, .int xM_walkers, .int xM_light, .int xM_water, .ref aMnerve, .ref aMkind, .int xM_readWalkers, .int xM_readLight, .int xM_readWater, .ref aMreadNerve, .ref aMreadKind, .ref aMpage, .ref aMtrial, .ref aMbook, .int xM_acts, .ref aMkept, .ref aMisKept, .int xM_told, .ref aMtoldMinute, .ref aMtoldHeard, .long xM_seed, .int xM_orderBest, .int xM_orderMany, .ref aMworth, .int xM_turned]] sz [.ref aM, .long j1]) (kQl D [] [oO aM 4 [.int xM_thrown, .ref aMtext, .int xM_textSize, .int xM_place, .int xM_walkers, .int xM_light, .int xM_water, .ref aMnerve, .ref aMkind, .int xM_readWalkers, .int xM_readLight, .int xM_readWater, .ref aMreadNerve, .ref aMreadKind, .ref aMpage, .ref aMtrial, .ref aMbook, .int xM_acts, .ref aMkept, .ref aMisKept, .int xM_told, .ref aMtoldMinute, .ref aMtoldHeard, .long xM_seed, .int xM_orderBest, .int xM_orderMany, .ref aMworth, .int xM_turned]] sz [oO aM 4 [.int z.2.1, .ref aMtext, .int xM_textSize, .int xM_place, .int xM_walkers, .int xM_light, .int xM_water, .ref aMnerve, .ref aMkind, .int xM_readWalkers, .int xM_readLight, .int xM_readWater, .ref aMreadNerve, .ref aMreadKind, .ref aMpage, .ref aMtrial, .ref aMbook, .int xM_acts, .ref aMkept, .ref aMisKept, .int xM_told, .ref aMtoldMinute, .ref aMtoldHeard, .long z.2.2, .int xM_orderBest, .int xM_orderMany, .ref aMworth, .int xM_turned]] z.1) 0 0 (va_A [oO aM 4 [.int xM_thrown, .ref aMtext, .int xM_textSize, .int xM_place, .int xM_walkers, .int xM_light, .int xM_water, .ref aMnerve, .ref aMkind, .int xM_readWalkers, .int xM_readLight, .int xM_readWater, .ref aMreadNerve, .ref aMreadKind, .ref aMpage, .ref aMtrial, .ref aMbook, .int xM_acts, .ref aMkept, .ref aMisKept, .int xM_told, .ref aMtoldMinute, .ref aMtoldHeard, .long xM_seed, .int xM_orderBest, .int xM_orderMany, .ref aMworth, .int xM_turned]] sz) := by
  refine kMet_l (own := RX5) z (fun u => u.1) (fun u => [oO aM 4 [.int u.2.1, .ref aMtext, .int xM_textSize, .int xM_place, .int xM_walkers, .int xM_light, .int xM_water, .ref aMnerve, .ref aMkind, .int xM_readWalkers, .int xM_readLight, .int xM_readWater, .ref aMreadNerve, .ref aMreadKind, .ref aMpage, .ref aMtrial, .ref aMbook, .int xM_acts, .ref aMkept, .ref aMisKept, .int xM_told, .ref aMtoldMinute, .ref aMtoldHeard, .long u.2.2, .int xM_orderBest, .int xM_orderMany, .ref aMworth, .int xM_turned]]) rfl (by decide) rfl ⟨rfl, rfl⟩ (Nat.le_of_ble_eq_true rfl) ?_
  intro X hXl hXD hC hQ
  subst hXl
  subst hXD
  change kG X 0 [(0, .ref aM), (1, .long j1)] [] [oO aM 4 [.int xM_thrown, .ref aMtext, .int xM_textSize, .int xM_place, .int xM_walkers, .int xM_light, .int xM_water, .ref aMnerve, .ref aMkind, .int xM_readWalkers, .int xM_readLight, .int xM_readWater, .ref aMreadNerve, .ref aMreadKind, .ref aMpage, .ref aMtrial, .ref aMbook, .int xM_acts, .ref aMkept, .ref aMisKept, .int xM_told, .ref aMtoldMinute, .ref aMtoldHeard, .long xM_seed, .int xM_orderBest, .int xM_orderMany, .ref aMworth, .int xM_turned]]
  have hinX5 : ∀ w ∈ wsX50, w ∈ wsX5_seed := fun _ h => List.mem_cons_of_mem _ (List.mem_append_right _ h)
  unfold fX5_seed at hf
  refine g_aload_n hC 0 dX5_seed_0 rfl rfl ?_
  refine g_iconst (v := (0 : Int32)) hC dX5_seed_1 ci_0 ?_
  refine g_put (C := RX5) (T := TX5) (N := 28) (ty := .int) (ws' := [oO aM 4 [.int (0 : Int32), .ref aMtext, .int xM_textSize, .int xM_place, .int xM_walkers, .int xM_light, .int xM_water, .ref aMnerve, .ref aMkind, .int xM_readWalkers, .int xM_readLight, .int xM_readWater, .ref aMreadNerve, .ref aMreadKind, .ref aMpage, .ref aMtrial, .ref aMbook, .int xM_acts, .ref aMkept, .ref aMisKept, .int xM_told, .ref aMtoldMinute, .ref aMtoldHeard, .long xM_seed, .int xM_orderBest, .int xM_orderMany, .ref aMworth, .int xM_turned]]) hC tyX5_ok nmX5 hinX5 0 0 rfl rfl (by decide) (List.mem_of_getElem? (i := 1) rfl) rfl rfl rfl rfl (Nat.le_of_ble_eq_true rfl) dX5_seed_2 rfl ?_
  refine g_aload_n hC 0 dX5_seed_5 rfl rfl ?_
  refine g_get (C := RX5) (T := TX5) (N := 28) (v := .long xM_seed) hC hinX5 0 23 rfl rfl (by decide) (List.mem_of_getElem? (i := 2) rfl) rfl dX5_seed_6 ?_
  refine g_lstore_n (lv' := [(3, .long xM_seed), (0, .ref aM), (1, .long j1)]) hC dX5_seed_9 rfl (by decide) rfl ?_
  refine g_aload_n hC 1 dX5_seed_10 rfl rfl ?_
  refine g_lload_n hC 2 dX5_seed_11 rfl rfl ?_
  refine g_put (C := RX5) (T := TX5) (N := 28) (ty := .long) (ws' := [oO aM 4 [.int (0 : Int32), .ref aMtext, .int xM_textSize, .int xM_place, .int xM_walkers, .int xM_light, .int xM_water, .ref aMnerve, .ref aMkind, .int xM_readWalkers, .int xM_readLight, .int xM_readWater, .ref aMreadNerve, .ref aMreadKind, .ref aMpage, .ref aMtrial, .ref aMbook, .int xM_acts, .ref aMkept, .ref aMisKept, .int xM_told, .ref aMtoldMinute, .ref aMtoldHeard, .long j1, .int xM_orderBest, .int xM_orderMany, .ref aMworth, .int xM_turned]]) hC tyX5_ok nmX5 hinX5 0 23 rfl rfl (by decide) (List.mem_of_getElem? (i := 2) rfl) rfl rfl rfl rfl (Nat.le_of_ble_eq_true rfl) dX5_seed_12 rfl ?_
  refine g_lload_n hC 0 dX5_seed_15 rfl rfl ?_
  exact hQ (xM_seed, (0 : Int32), j1) _ _ (gd_s hf) dX5_seed_16
theorem kyX5_gorges : yX5_gorges.cls = RX5 ∧ yX5_gorges.cls ≠ "java/lang/invoke/MethodHandle" ∧ yX5_gorges.cls ≠ "java/lang/invoke/VarHandle" ∧ (parseMethodDescriptor yX5_gorges.desc).map (fun d => d.parameters.length) = some 1 := by decide +kernel
set_option maxHeartbeats 4000000 in
set_option maxRecDepth 100000 in
theorem cX5_gorges_m (l : Launch) (D : va_G) (aM aMtext aMnerve aMkind aMreadNerve aMreadKind aMpage aMtrial aMbook aMkept aMisKept aMtoldMinute aMtoldHeard aMworth : Nat) (iMnerve iMkind iMpage iMtrial : ClassId) (xM_thrown : Int32) (xM_textSize : Int32) (xM_place : Int32) (xM_walkers : Int32) (xM_light : Int32) (xM_water : Int32) (xM_readWalkers : Int32) (xM_readLight : Int32) (xM_readWater : Int32) (xM_acts : Int32) (xM_told : Int32) (xM_seed : Int64) (xM_orderBest : Int32) (xM_orderMany : Int32) (xM_turned : Int32) (xMnerve : Nat → Int32) (xMkind : Nat → Int32) (xMpage : Nat → Int32) (xMtrial : Nat → Int32) (j1 : Int32) (z : Int32 × Int32 × Int64 × Int32 × (Nat → Int32)) (hf : fX5_gorges j1 xM_thrown xM_light xM_water xM_seed xM_turned xMnerve xMkind xMpage xMtrial = some z) : ∀ sz : Nat, Met l yX5_gorges wsX5_gorges ({ frames := 3, cells := 0, slots := 0, locals := 71 } : Room) (kPre D [(iMnerve, .int), (iMkind, .int), (iMpage, .int), (iMtrial, .int)] [oO aM 4 [.int xM_thrown, .ref aMtext, .int xM_textSize, .int xM_place, .int xM_walkers, .int xM_light, .int xM_water, .ref aMnerve, .ref aMkind, .int xM_readWalkers, .int xM_readLight, .int xM_readWater, .ref aMreadNerve, .ref aMreadKind, .ref aMpage, .ref aMtrial, .ref aMbook, .int xM_acts, .ref aMkept, .ref aMisKept, .int xM_told, .ref aMtoldMinute, .ref aMtoldHeard, .long xM_seed, .int xM_orderBest, .int xM_orderMany, .ref aMworth, .int xM_turned], oI aMnerve iMnerve 5 xMnerve, oI aMkind iMkind 5 xMkind, oI aMpage iMpage 13 xMpage, oI aMtrial iMtrial 13 xMtrial] sz [.ref aM, .int j1]) (kQi D [(iMnerve, .int), (iMkind, .int), (iMpage, .int), (iMtrial, .int)] [oO aM 4 [.int xM_thrown, .ref aMtext, .int xM_textSize, .int xM_place, .int xM_walkers, .int xM_light, .int xM_water, .ref aMnerve, .ref aMkind, .int xM_readWalkers, .int xM_readLight, .int xM_readWater, .ref aMreadNerve, .ref aMreadKind, .ref aMpage, .ref aMtrial, .ref aMbook, .int xM_acts, .ref aMkept, .ref aMisKept, .int xM_told, .ref aMtoldMinute, .ref aMtoldHeard, .long xM_seed, .int xM_orderBest, .int xM_orderMany, .ref aMworth, .int xM_turned], oI aMnerve iMnerve 5 xMnerve, oI aMkind iMkind 5 xMkind, oI aMpage iMpage 13 xMpage, oI aMtrial iMtrial 13 xMtrial] sz [oO aM 4 [.int z.2.1, .ref aMtext, .int xM_textSize, .int xM_place, .int xM_walkers, .int xM_light, .int xM_water, .ref aMnerve, .ref aMkind, .int xM_readWalkers, .int xM_readLight, .int xM_readWater, .ref aMreadNerve, .ref aMreadKind, .ref aMpage, .ref aMtrial, .ref aMbook, .int xM_acts, .ref aMkept, .ref aMisKept, .int xM_told, .ref aMtoldMinute, .ref aMtoldHeard, .long z.2.2.1, .int xM_orderBest, .int xM_orderMany, .ref aMworth, .int z.2.2.2.1], oI aMnerve iMnerve 5 xMnerve, oI aMkind iMkind 5 xMkind, oI aMpage iMpage 13 xMpage, oI aMtrial iMtrial 13 z.2.2.2.2] z.1) 0 0 (va_A [oO aM 4 [.int xM_thrown, .ref aMtext, .int xM_textSize, .int xM_place, .int xM_walkers, .int xM_light, .int xM_water, .ref aMnerve, .ref aMkind, .int xM_readWalkers, .int xM_readLight, .int xM_readWater, .ref aMreadNerve, .ref aMreadKind, .ref aMpage, .ref aMtrial, .ref aMbook, .int xM_acts, .ref aMkept, .ref aMisKept, .int xM_told, .ref aMtoldMinute, .ref aMtoldHeard, .long xM_seed, .int xM_orderBest, .int xM_orderMany, .ref aMworth, .int xM_turned], oI aMnerve iMnerve 5 xMnerve, oI aMkind iMkind 5 xMkind, oI aMpage iMpage 13 xMpage, oI aMtrial iMtrial 13 xMtrial] sz) := by
  refine kMet_i (own := RX5) z (fun u => u.1) (fun u => [oO aM 4 [.int u.2.1, .ref aMtext, .int xM_textSize, .int xM_place, .int xM_walkers, .int xM_light, .int xM_water, .ref aMnerve, .ref aMkind, .int xM_readWalkers, .int xM_readLight, .int xM_readWater, .ref aMreadNerve, .ref aMreadKind, .ref aMpage, .ref aMtrial, .ref aMbook, .int xM_acts, .ref aMkept, .ref aMisKept, .int xM_told, .ref aMtoldMinute, .ref aMtoldHeard, .long u.2.2.1, .int xM_orderBest, .int xM_orderMany, .ref aMworth, .int u.2.2.2.1], oI aMnerve iMnerve 5 xMnerve, oI aMkind iMkind 5 xMkind, oI aMpage iMpage 13 xMpage, oI aMtrial iMtrial 13 u.2.2.2.2]) rfl (by decide) rfl ⟨rfl, rfl⟩ (Nat.le_of_ble_eq_true rfl) ?_
  intro X hXl hXD hC hQ
  subst hXl
  subst hXD
  change kG X 0 [(0, .ref aM), (1, .int j1)] [] [oO aM 4 [.int xM_thrown, .ref aMtext, .int xM_textSize, .int xM_place, .int xM_walkers, .int xM_light, .int xM_water, .ref aMnerve, .ref aMkind, .int xM_readWalkers, .int xM_readLight, .int xM_readWater, .ref aMreadNerve, .ref aMreadKind, .ref aMpage, .ref aMtrial, .ref aMbook, .int xM_acts, .ref aMkept, .ref aMisKept, .int xM_told, .ref aMtoldMinute, .ref aMtoldHeard, .long xM_seed, .int xM_orderBest, .int xM_orderMany, .ref aMworth, .int xM_turned], oI aMnerve iMnerve 5 xMnerve, oI aMkind iMkind 5 xMkind, oI aMpage iMpage 13 xMpage, oI aMtrial iMtrial 13 xMtrial]
  have hinX5 : ∀ w ∈ wsX50, w ∈ wsX5_gorges := fun _ h => List.mem_cons_of_mem _ (List.mem_append_right _ h)
  have t33 : ∀ (k24 : Int32 → Int32 → Int32 → Int32 → Int64 → Int32 → (Nat → Int32) → Option (Int32 × Int32 × Int64 × Int32 × (Nat → Int32))) (hk24 : ∀ (j1 : Int32) (j2 : Int32) (j3 : Int32) (xM_thrown : Int32) (xM_seed : Int64) (xM_turned : Int32) (xMtrial : Nat → Int32), k24 j1 j2 j3 xM_thrown xM_seed xM_turned xMtrial = some z → kG X 24 [(0, .ref aM), (1, .int j1), (2, .int j2), (3, .int j3)] [] [oO aM 4 [.int xM_thrown, .ref aMtext, .int xM_textSize, .int xM_place, .int xM_walkers, .int xM_light, .int xM_water, .ref aMnerve, .ref aMkind, .int xM_readWalkers, .int xM_readLight, .int xM_readWater, .ref aMreadNerve, .ref aMreadKind, .ref aMpage, .ref aMtrial, .ref aMbook, .int xM_acts, .ref aMkept, .ref aMisKept, .int xM_told, .ref aMtoldMinute, .ref aMtoldHeard, .long xM_seed, .int xM_orderBest, .int xM_orderMany, .ref aMworth, .int xM_turned], oI aMnerve iMnerve 5 xMnerve, oI aMkind iMkind 5 xMkind, oI aMpage iMpage 13 xMpage, oI aMtrial iMtrial 13 xMtrial]) (n : Nat) (j1 : Int32) (j2 : Int32) (j3 : Int32) (xM_thrown : Int32) (xM_seed : Int64) (xM_turned : Int32) (xMtrial : Nat → Int32), lp (fun _ _ _ _ _ _ _ => none) (fX5_gorges_b33_S xM_light xM_water xMnerve xMkind xMpage k24) n j1 j2 j3 xM_thrown xM_seed xM_turned xMtrial = some z → kG X 33 [(0, .ref aM), (1, .int j1), (2, .int j2), (3, .int j3)] [] [oO aM 4 [.int xM_thrown, .ref aMtext, .int xM_textSize, .int xM_place, .int xM_walkers, .int xM_light, .int xM_water, .ref aMnerve, .ref aMkind, .int xM_readWalkers, .int xM_readLight, .int xM_readWater, .ref aMreadNerve, .ref aMreadKind, .ref aMpage, .ref aMtrial, .ref aMbook, .int xM_acts, .ref aMkept, .ref aMisKept, .int xM_told, .ref aMtoldMinute, .ref aMtoldHeard, .long xM_seed, .int xM_orderBest, .int xM_orderMany, .ref aMworth, .int xM_turned], oI aMnerve iMnerve 5 xMnerve, oI aMkind iMkind 5 xMkind, oI aMpage iMpage 13 xMpage, oI aMtrial iMtrial 13 xMtrial] := by
    intro k24 hk24 n
    induction n with
    | zero => intro j1 j2 j3 xM_thrown xM_seed xM_turned xMtrial hf; cases hf
    | succ n hk33 =>
      intro j1 j2 j3 xM_thrown xM_seed xM_turned xMtrial hf
      rw [lp_s] at hf
      revert hf hk33
      generalize lp (fun _ _ _ _ _ _ _ => none) (fX5_gorges_b33_S xM_light xM_water xMnerve xMkind xMpage k24) n = k33
      intro hk33 hf
      unfold fX5_gorges_b33_S at hf
      refine g_aload_n hC 0 dX5_gorges_33 rfl rfl ?_
      refine g_get (C := RX5) (T := TX5) (N := 28) (v := .ref aMtrial) hC hinX5 0 15 rfl rfl (by decide) (List.mem_of_getElem? (i := 3) rfl) rfl dX5_gorges_34 ?_
      refine g_bipush (v := (11 : Int32)) hC dX5_gorges_37 cb_11 ?_
      obtain ⟨hg, hf⟩ := gd_ga hf
      refine g_iald hC 4 3 hg rfl rfl dX5_gorges_39 ?_
      refine g_aload_n hC 0 dX5_gorges_40 rfl rfl ?_
      refine g_get (C := RX5) (T := TX5) (N := 28) (v := .int xM_light) hC hinX5 0 5 rfl rfl (by decide) (List.mem_of_getElem? (i := 4) rfl) rfl dX5_gorges_41 ?_
      refine g_icmp_ge (tgt := 87) hC dX5_gorges_44 (by decide) (fun hc => ?_) (fun hc => ?_)
      · replace hf := gd_t hc hf
        refine g_iload_n hC 2 dX5_gorges_87 rfl rfl ?_
        refine g_aload_n hC 0 dX5_gorges_88 rfl rfl ?_
        refine g_get (C := RX5) (T := TX5) (N := 28) (v := .ref aMtrial) hC hinX5 0 15 rfl rfl (by decide) (List.mem_of_getElem? (i := 3) rfl) rfl dX5_gorges_89 ?_
        refine g_iconst (v := (5 : Int32)) hC dX5_gorges_92 ci_5 ?_
        obtain ⟨hg, hf⟩ := gd_ga hf
        refine g_iald hC 4 3 hg rfl rfl dX5_gorges_93 ?_
        refine g_iadd hC dX5_gorges_94 ?_
        refine g_istore_n (lv' := [(2, .int (j2 + (xMtrial (5 : Int32).toNatClampNeg))), (0, .ref aM), (1, .int j1), (3, .int j3)]) hC dX5_gorges_95 rfl (by decide) rfl ?_
        refine g_iinc (v := (j3 + (1 : Int32))) (lv' := [(3, .int (j3 + (1 : Int32))), (2, .int (j2 + (xMtrial (5 : Int32).toNatClampNeg))), (0, .ref aM), (1, .int j1)]) hC 3 dX5_gorges_96 rfl (ii _ ci_1) (by decide) rfl ?_
        refine g_goto (tgt := 24) hC dX5_gorges_99 (by decide) ?_
        refine g_lv (lv' := [(0, .ref aM), (1, .int j1), (2, .int (j2 + (xMtrial (5 : Int32).toNatClampNeg))), (3, .int (j3 + (1 : Int32)))]) [2, 3, 1, 0] rfl ?_
        exact hk24 j1 (j2 + (xMtrial (5 : Int32).toNatClampNeg)) (j3 + (1 : Int32)) xM_thrown xM_seed xM_turned xMtrial hf
      · replace hf := gd_f hc hf
        refine g_aload_n hC 0 dX5_gorges_47 rfl rfl ?_
        refine g_aload_n hC 0 dX5_gorges_48 rfl rfl ?_
        refine g_get (C := RX5) (T := TX5) (N := 28) (v := .long xM_seed) hC hinX5 0 23 rfl rfl (by decide) (List.mem_of_getElem? (i := 5) rfl) rfl dX5_gorges_49 ?_
        refine g_ldc2 (v := (6364136223846793005 : Int64)) hC dX5_gorges_52 (List.mem_of_getElem? (i := 6) rfl) ?_
        refine g_lmul hC dX5_gorges_55 ?_
        refine g_ldc2 (v := (1442695040888963407 : Int64)) hC dX5_gorges_56 (List.mem_of_getElem? (i := 7) rfl) ?_
        refine g_ladd hC dX5_gorges_59 ?_
        refine g_put (C := RX5) (T := TX5) (N := 28) (ty := .long) (ws' := [oO aM 4 [.int xM_thrown, .ref aMtext, .int xM_textSize, .int xM_place, .int xM_walkers, .int xM_light, .int xM_water, .ref aMnerve, .ref aMkind, .int xM_readWalkers, .int xM_readLight, .int xM_readWater, .ref aMreadNerve, .ref aMreadKind, .ref aMpage, .ref aMtrial, .ref aMbook, .int xM_acts, .ref aMkept, .ref aMisKept, .int xM_told, .ref aMtoldMinute, .ref aMtoldHeard, .long ((xM_seed * (6364136223846793005 : Int64)) + (1442695040888963407 : Int64)), .int xM_orderBest, .int xM_orderMany, .ref aMworth, .int xM_turned], oI aMnerve iMnerve 5 xMnerve, oI aMkind iMkind 5 xMkind, oI aMpage iMpage 13 xMpage, oI aMtrial iMtrial 13 xMtrial]) hC tyX5_ok nmX5 hinX5 0 23 rfl rfl (by decide) (List.mem_of_getElem? (i := 5) rfl) rfl rfl rfl rfl (Nat.le_of_ble_eq_true rfl) dX5_gorges_60 rfl ?_
        refine g_aload_n hC 0 dX5_gorges_63 rfl rfl ?_
        refine g_aload_n hC 0 dX5_gorges_64 rfl rfl ?_
        refine g_get (C := RX5) (T := TX5) (N := 28) (v := .ref aMtrial) hC hinX5 0 15 rfl rfl (by decide) (List.mem_of_getElem? (i := 3) rfl) rfl dX5_gorges_65 ?_
        refine g_aload_n hC 0 dX5_gorges_68 rfl rfl ?_
        refine g_get (C := RX5) (T := TX5) (N := 28) (v := .long ((xM_seed * (6364136223846793005 : Int64)) + (1442695040888963407 : Int64))) hC hinX5 0 23 rfl rfl (by decide) (List.mem_of_getElem? (i := 5) rfl) rfl dX5_gorges_69 ?_
        refine g_bipush (v := (33 : Int32)) hC dX5_gorges_72 cb_33 ?_
        refine g_lushr hC dX5_gorges_74 ?_
        refine g_ldc2 (v := (32 : Int64)) hC dX5_gorges_75 (List.mem_of_getElem? (i := 8) rfl) ?_
        refine g_lrem hC dX5_gorges_78 (by decide) ?_
        refine g_l2i hC dX5_gorges_79 ?_
        obtain ⟨z80, hz80, hf⟩ := gd_b hf
        refine g_callVi (wr := [oI aMpage iMpage 13 xMpage]) (wn := [oO aM 4 [.int xM_thrown, .ref aMtext, .int xM_textSize, .int xM_place, .int xM_walkers, .int xM_light, .int xM_water, .ref aMnerve, .ref aMkind, .int xM_readWalkers, .int xM_readLight, .int xM_readWater, .ref aMreadNerve, .ref aMreadKind, .ref aMpage, .ref aMtrial, .ref aMbook, .int xM_acts, .ref aMkept, .ref aMisKept, .int xM_told, .ref aMtoldMinute, .ref aMtoldHeard, .long ((xM_seed * (6364136223846793005 : Int64)) + (1442695040888963407 : Int64)), .int xM_orderBest, .int xM_orderMany, .ref aMworth, .int z80.2.1], oI aMnerve iMnerve 5 xMnerve, oI aMkind iMkind 5 xMkind, oI aMpage iMpage 13 xMpage, oI aMtrial iMtrial 13 z80.2.2]) hC [.ref aMtrial, .int (((((xM_seed * (6364136223846793005 : Int64)) + (1442695040888963407 : Int64)).toUInt64 >>> ((33 : Int32).toInt64.toUInt64 &&& Int64.toUInt64 63)).toInt64) - ((((xM_seed * (6364136223846793005 : Int64)) + (1442695040888963407 : Int64)).toUInt64 >>> ((33 : Int32).toInt64.toUInt64 &&& Int64.toUInt64 63)).toInt64) / (32 : Int64) * (32 : Int64)).toInt32] (cX5_goMinute_m (kl X) (kD X) aM aMtext aMnerve aMkind aMreadNerve aMreadKind aMpage aMtrial aMbook aMkept aMisKept aMtoldMinute aMtoldHeard aMworth aMtrial iMnerve iMkind iMtrial xM_thrown xM_textSize xM_place xM_walkers xM_light xM_water xM_readWalkers xM_readLight xM_readWater xM_acts xM_told ((xM_seed * (6364136223846793005 : Int64)) + (1442695040888963407 : Int64)) xM_orderBest xM_orderMany xM_turned xMnerve xMkind xMtrial ((((((xM_seed * (6364136223846793005 : Int64)) + (1442695040888963407 : Int64)).toUInt64 >>> ((33 : Int32).toInt64.toUInt64 &&& Int64.toUInt64 63)).toInt64) - ((((xM_seed * (6364136223846793005 : Int64)) + (1442695040888963407 : Int64)).toUInt64 >>> ((33 : Int32).toInt64.toUInt64 &&& Int64.toUInt64 63)).toInt64) / (32 : Int64) * (32 : Int64)).toInt32) z80 hz80) gX5_gorges_X5_goMinute rfl kyX5_goMinute rfl rfl rfl (q0 := 0) rfl [0, 1, 2, 4] [3] [0, 1, 3] [1, 2, 3, 0, 4] rfl rfl rfl rfl (by decide) rfl rfl rfl ⟨rfl, rfl⟩ ⟨Nat.le_of_ble_eq_true rfl, Nat.le_of_ble_eq_true rfl⟩ (Nat.le_of_ble_eq_true rfl) rfl dX5_gorges_80 ?_
        refine g_pop hC dX5_gorges_83 rfl ?_
        refine g_goto (tgt := 33) hC dX5_gorges_84 (by decide) ?_
        exact hk33 j1 j2 j3 xM_thrown ((xM_seed * (6364136223846793005 : Int64)) + (1442695040888963407 : Int64)) z80.2.1 z80.2.2 hf
  have t24 : ∀  (n : Nat) (j1 : Int32) (j2 : Int32) (j3 : Int32) (xM_thrown : Int32) (xM_seed : Int64) (xM_turned : Int32) (xMtrial : Nat → Int32), lp (fun _ _ _ _ _ _ _ => none) (fX5_gorges_b24_S xM_light xM_water xMnerve xMkind xMpage ) n j1 j2 j3 xM_thrown xM_seed xM_turned xMtrial = some z → kG X 24 [(0, .ref aM), (1, .int j1), (2, .int j2), (3, .int j3)] [] [oO aM 4 [.int xM_thrown, .ref aMtext, .int xM_textSize, .int xM_place, .int xM_walkers, .int xM_light, .int xM_water, .ref aMnerve, .ref aMkind, .int xM_readWalkers, .int xM_readLight, .int xM_readWater, .ref aMreadNerve, .ref aMreadKind, .ref aMpage, .ref aMtrial, .ref aMbook, .int xM_acts, .ref aMkept, .ref aMisKept, .int xM_told, .ref aMtoldMinute, .ref aMtoldHeard, .long xM_seed, .int xM_orderBest, .int xM_orderMany, .ref aMworth, .int xM_turned], oI aMnerve iMnerve 5 xMnerve, oI aMkind iMkind 5 xMkind, oI aMpage iMpage 13 xMpage, oI aMtrial iMtrial 13 xMtrial] := by
    intro  n
    induction n with
    | zero => intro j1 j2 j3 xM_thrown xM_seed xM_turned xMtrial hf; cases hf
    | succ n hk24 =>
      intro j1 j2 j3 xM_thrown xM_seed xM_turned xMtrial hf
      rw [lp_s] at hf
      revert hf hk24
      generalize lp (fun _ _ _ _ _ _ _ => none) (fX5_gorges_b24_S xM_light xM_water xMnerve xMkind xMpage ) n = k24
      intro hk24 hf
      unfold fX5_gorges_b24_S at hf
      refine g_iload_n hC 3 dX5_gorges_24 rfl rfl ?_
      refine g_iload_n hC 1 dX5_gorges_25 rfl rfl ?_
      refine g_icmp_ge (tgt := 102) hC dX5_gorges_26 (by decide) (fun hc => ?_) (fun hc => ?_)
      · replace hf := gd_t hc hf
        refine g_iload_n hC 2 dX5_gorges_102 rfl rfl ?_
        exact hQ (j2, xM_thrown, xM_seed, xM_turned, xMtrial) _ _ (gd_s hf) dX5_gorges_103
      · replace hf := gd_f hc hf
        refine g_aload_n hC 0 dX5_gorges_29 rfl rfl ?_
        obtain ⟨z30, hz30, hf⟩ := gd_b hf
        refine g_callVv (wr := [oI aMnerve iMnerve 5 xMnerve, oI aMkind iMkind 5 xMkind]) (wn := [oO aM 4 [.int xM_thrown, .ref aMtext, .int xM_textSize, .int xM_place, .int xM_walkers, .int xM_light, .int xM_water, .ref aMnerve, .ref aMkind, .int xM_readWalkers, .int xM_readLight, .int xM_readWater, .ref aMreadNerve, .ref aMreadKind, .ref aMpage, .ref aMtrial, .ref aMbook, .int xM_acts, .ref aMkept, .ref aMisKept, .int xM_told, .ref aMtoldMinute, .ref aMtoldHeard, .long xM_seed, .int xM_orderBest, .int xM_orderMany, .ref aMworth, .int xM_turned], oI aMnerve iMnerve 5 xMnerve, oI aMkind iMkind 5 xMkind, oI aMpage iMpage 13 xMpage, oI aMtrial iMtrial 13 z30]) hC [] (cX5_begin_m (kl X) (kD X) aM aMtext aMnerve aMkind aMreadNerve aMreadKind aMpage aMtrial aMbook aMkept aMisKept aMtoldMinute aMtoldHeard aMworth iMpage iMtrial xM_thrown xM_textSize xM_place xM_walkers xM_light xM_water xM_readWalkers xM_readLight xM_readWater xM_acts xM_told xM_seed xM_orderBest xM_orderMany xM_turned xMpage xMtrial z30 hz30) gX5_gorges_X5_begin rfl kyX5_begin rfl rfl rfl (q0 := 0) rfl [0, 3, 4] [1, 2] [2, 3] [2, 0, 1, 3, 4] rfl rfl rfl rfl (by decide) rfl rfl rfl ⟨rfl, rfl⟩ ⟨Nat.le_of_ble_eq_true rfl, Nat.le_of_ble_eq_true rfl⟩ (Nat.le_of_ble_eq_true rfl) rfl dX5_gorges_30 ?_
        exact t33 k24 hk24 fu j1 j2 j3 xM_thrown xM_seed xM_turned z30 hf
  unfold fX5_gorges at hf
  refine g_aload_n hC 0 dX5_gorges_0 rfl rfl ?_
  refine g_iconst (v := (0 : Int32)) hC dX5_gorges_1 ci_0 ?_
  refine g_put (C := RX5) (T := TX5) (N := 28) (ty := .int) (ws' := [oO aM 4 [.int (0 : Int32), .ref aMtext, .int xM_textSize, .int xM_place, .int xM_walkers, .int xM_light, .int xM_water, .ref aMnerve, .ref aMkind, .int xM_readWalkers, .int xM_readLight, .int xM_readWater, .ref aMreadNerve, .ref aMreadKind, .ref aMpage, .ref aMtrial, .ref aMbook, .int xM_acts, .ref aMkept, .ref aMisKept, .int xM_told, .ref aMtoldMinute, .ref aMtoldHeard, .long xM_seed, .int xM_orderBest, .int xM_orderMany, .ref aMworth, .int xM_turned], oI aMnerve iMnerve 5 xMnerve, oI aMkind iMkind 5 xMkind, oI aMpage iMpage 13 xMpage, oI aMtrial iMtrial 13 xMtrial]) hC tyX5_ok nmX5 hinX5 0 0 rfl rfl (by decide) (List.mem_of_getElem? (i := 1) rfl) rfl rfl rfl rfl (Nat.le_of_ble_eq_true rfl) dX5_gorges_2 rfl ?_
  refine g_iload_n hC 1 dX5_gorges_5 rfl rfl ?_
  refine g_i2l hC dX5_gorges_6 ?_
  refine g_lconst (v := (1 : Int64)) hC dX5_gorges_7 rfl ?_
  refine g_ldc2 (v := (20 : Int64)) hC dX5_gorges_8 (List.mem_of_getElem? (i := 2) rfl) ?_
  obtain ⟨z11, hz11, hf⟩ := gd_b hf
  refine g_callSi (wr := [oO aM 4 [.int (0 : Int32), .ref aMtext, .int xM_textSize, .int xM_place, .int xM_walkers, .int xM_light, .int xM_water, .ref aMnerve, .ref aMkind, .int xM_readWalkers, .int xM_readLight, .int xM_readWater, .ref aMreadNerve, .ref aMreadKind, .ref aMpage, .ref aMtrial, .ref aMbook, .int xM_acts, .ref aMkept, .ref aMisKept, .int xM_told, .ref aMtoldMinute, .ref aMtoldHeard, .long xM_seed, .int xM_orderBest, .int xM_orderMany, .ref aMworth, .int xM_turned], oI aMnerve iMnerve 5 xMnerve, oI aMkind iMkind 5 xMkind, oI aMpage iMpage 13 xMpage, oI aMtrial iMtrial 13 xMtrial]) (wn := [oO aM 4 [.int (0 : Int32), .ref aMtext, .int xM_textSize, .int xM_place, .int xM_walkers, .int xM_light, .int xM_water, .ref aMnerve, .ref aMkind, .int xM_readWalkers, .int xM_readLight, .int xM_readWater, .ref aMreadNerve, .ref aMreadKind, .ref aMpage, .ref aMtrial, .ref aMbook, .int xM_acts, .ref aMkept, .ref aMisKept, .int xM_told, .ref aMtoldMinute, .ref aMtoldHeard, .long xM_seed, .int xM_orderBest, .int xM_orderMany, .ref aMworth, .int xM_turned], oI aMnerve iMnerve 5 xMnerve, oI aMkind iMkind 5 xMkind, oI aMpage iMpage 13 xMpage, oI aMtrial iMtrial 13 xMtrial]) hC [.long j1.toInt64, .long (1 : Int64), .long (20 : Int64)] (cX5_in_m (kl X) (kD X) j1.toInt64 (1 : Int64) (20 : Int64) z11 hz11) gX5_gorges_X5_in rfl kyX5_in rfl [] [0, 1, 2, 3, 4] [] [0, 1, 2, 3, 4] rfl rfl rfl rfl (by decide) rfl rfl rfl ⟨rfl, rfl⟩ ⟨Nat.le_of_ble_eq_true rfl, Nat.le_of_ble_eq_true rfl⟩ (Nat.le_of_ble_eq_true rfl) rfl dX5_gorges_11 ?_
  refine g_if_ne (tgt := 20) hC dX5_gorges_14 (by decide) (fun hc => ?_) (fun hc => ?_)
  · replace hf := gd_f hc hf
    refine g_iconst (v := (0 : Int32)) hC dX5_gorges_20 ci_0 ?_
    refine g_istore_n (lv' := [(2, .int (0 : Int32)), (0, .ref aM), (1, .int j1)]) hC dX5_gorges_21 rfl (by decide) rfl ?_
    refine g_iconst (v := (0 : Int32)) hC dX5_gorges_22 ci_0 ?_
    refine g_istore_n (lv' := [(3, .int (0 : Int32)), (2, .int (0 : Int32)), (0, .ref aM), (1, .int j1)]) hC dX5_gorges_23 rfl (by decide) rfl ?_
    refine g_lv (lv' := [(0, .ref aM), (1, .int j1), (2, .int (0 : Int32)), (3, .int (0 : Int32))]) [2, 3, 1, 0] rfl ?_
    exact t24  fu j1 (0 : Int32) (0 : Int32) (0 : Int32) xM_seed xM_turned xMtrial hf
  · replace hf := gd_t hc hf
    refine g_bipush (v := (-2 : Int32)) hC dX5_gorges_17 cb_m2 ?_
    exact hQ ((-2 : Int32), (0 : Int32), xM_seed, xM_turned, xMtrial) _ _ (gd_s hf) dX5_gorges_19
theorem kyX5_keep : yX5_keep.cls = RX5 ∧ yX5_keep.cls ≠ "java/lang/invoke/MethodHandle" ∧ yX5_keep.cls ≠ "java/lang/invoke/VarHandle" ∧ (parseMethodDescriptor yX5_keep.desc).map (fun d => d.parameters.length) = some 1 := by decide +kernel
set_option maxHeartbeats 4000000 in
set_option maxRecDepth 100000 in
theorem cX5_keep_m (l : Launch) (D : va_G) (aM aMtext aMnerve aMkind aMreadNerve aMreadKind aMpage aMtrial aMbook aMkept aMisKept aMtoldMinute aMtoldHeard aMworth : Nat) (iMpage iMkept iMisKept : ClassId) (xM_thrown : Int32) (xM_textSize : Int32) (xM_place : Int32) (xM_walkers : Int32) (xM_light : Int32) (xM_water : Int32) (xM_readWalkers : Int32) (xM_readLight : Int32) (xM_readWater : Int32) (xM_acts : Int32) (xM_told : Int32) (xM_seed : Int64) (xM_orderBest : Int32) (xM_orderMany : Int32) (xM_turned : Int32) (xMpage : Nat → Int32) (xMkept : Nat → Int32) (xMisKept : Nat → Int32) (j1 : Int32) (z : Int32 × Int32 × (Nat → Int32) × (Nat → Int32)) (hf : fX5_keep j1 xM_thrown xMpage xMkept xMisKept = some z) : ∀ sz : Nat, Met l yX5_keep wsX5_keep ({ frames := 1, cells := 0, slots := 0, locals := 25 } : Room) (kPre D [(iMpage, .int), (iMkept, .int), (iMisKept, .boolean)] [oO aM 4 [.int xM_thrown, .ref aMtext, .int xM_textSize, .int xM_place, .int xM_walkers, .int xM_light, .int xM_water, .ref aMnerve, .ref aMkind, .int xM_readWalkers, .int xM_readLight, .int xM_readWater, .ref aMreadNerve, .ref aMreadKind, .ref aMpage, .ref aMtrial, .ref aMbook, .int xM_acts, .ref aMkept, .ref aMisKept, .int xM_told, .ref aMtoldMinute, .ref aMtoldHeard, .long xM_seed, .int xM_orderBest, .int xM_orderMany, .ref aMworth, .int xM_turned], oI aMpage iMpage 13 xMpage, oI aMkept iMkept 26 xMkept, oI aMisKept iMisKept 2 xMisKept] sz [.ref aM, .int j1]) (kQi D [(iMpage, .int), (iMkept, .int), (iMisKept, .boolean)] [oO aM 4 [.int xM_thrown, .ref aMtext, .int xM_textSize, .int xM_place, .int xM_walkers, .int xM_light, .int xM_water, .ref aMnerve, .ref aMkind, .int xM_readWalkers, .int xM_readLight, .int xM_readWater, .ref aMreadNerve, .ref aMreadKind, .ref aMpage, .ref aMtrial, .ref aMbook, .int xM_acts, .ref aMkept, .ref aMisKept, .int xM_told, .ref aMtoldMinute, .ref aMtoldHeard, .long xM_seed, .int xM_orderBest, .int xM_orderMany, .ref aMworth, .int xM_turned], oI aMpage iMpage 13 xMpage, oI aMkept iMkept 26 xMkept, oI aMisKept iMisKept 2 xMisKept] sz [oO aM 4 [.int z.2.1, .ref aMtext, .int xM_textSize, .int xM_place, .int xM_walkers, .int xM_light, .int xM_water, .ref aMnerve, .ref aMkind, .int xM_readWalkers, .int xM_readLight, .int xM_readWater, .ref aMreadNerve, .ref aMreadKind, .ref aMpage, .ref aMtrial, .ref aMbook, .int xM_acts, .ref aMkept, .ref aMisKept, .int xM_told, .ref aMtoldMinute, .ref aMtoldHeard, .long xM_seed, .int xM_orderBest, .int xM_orderMany, .ref aMworth, .int xM_turned], oI aMpage iMpage 13 xMpage, oI aMkept iMkept 26 z.2.2.1, oI aMisKept iMisKept 2 z.2.2.2] z.1) 0 0 (va_A [oO aM 4 [.int xM_thrown, .ref aMtext, .int xM_textSize, .int xM_place, .int xM_walkers, .int xM_light, .int xM_water, .ref aMnerve, .ref aMkind, .int xM_readWalkers, .int xM_readLight, .int xM_readWater, .ref aMreadNerve, .ref aMreadKind, .ref aMpage, .ref aMtrial, .ref aMbook, .int xM_acts, .ref aMkept, .ref aMisKept, .int xM_told, .ref aMtoldMinute, .ref aMtoldHeard, .long xM_seed, .int xM_orderBest, .int xM_orderMany, .ref aMworth, .int xM_turned], oI aMpage iMpage 13 xMpage, oI aMkept iMkept 26 xMkept, oI aMisKept iMisKept 2 xMisKept] sz) := by
  refine kMet_i (own := RX5) z (fun u => u.1) (fun u => [oO aM 4 [.int u.2.1, .ref aMtext, .int xM_textSize, .int xM_place, .int xM_walkers, .int xM_light, .int xM_water, .ref aMnerve, .ref aMkind, .int xM_readWalkers, .int xM_readLight, .int xM_readWater, .ref aMreadNerve, .ref aMreadKind, .ref aMpage, .ref aMtrial, .ref aMbook, .int xM_acts, .ref aMkept, .ref aMisKept, .int xM_told, .ref aMtoldMinute, .ref aMtoldHeard, .long xM_seed, .int xM_orderBest, .int xM_orderMany, .ref aMworth, .int xM_turned], oI aMpage iMpage 13 xMpage, oI aMkept iMkept 26 u.2.2.1, oI aMisKept iMisKept 2 u.2.2.2]) rfl (by decide) rfl ⟨rfl, rfl⟩ (Nat.le_of_ble_eq_true rfl) ?_
  intro X hXl hXD hC hQ
  subst hXl
  subst hXD
  change kG X 0 [(0, .ref aM), (1, .int j1)] [] [oO aM 4 [.int xM_thrown, .ref aMtext, .int xM_textSize, .int xM_place, .int xM_walkers, .int xM_light, .int xM_water, .ref aMnerve, .ref aMkind, .int xM_readWalkers, .int xM_readLight, .int xM_readWater, .ref aMreadNerve, .ref aMreadKind, .ref aMpage, .ref aMtrial, .ref aMbook, .int xM_acts, .ref aMkept, .ref aMisKept, .int xM_told, .ref aMtoldMinute, .ref aMtoldHeard, .long xM_seed, .int xM_orderBest, .int xM_orderMany, .ref aMworth, .int xM_turned], oI aMpage iMpage 13 xMpage, oI aMkept iMkept 26 xMkept, oI aMisKept iMisKept 2 xMisKept]
  have hinX5 : ∀ w ∈ wsX50, w ∈ wsX5_keep := fun _ h => List.mem_cons_of_mem _ (List.mem_append_right _ h)
  have t26 : ∀  (n : Nat) (j1 : Int32) (j2 : Int32) (xM_thrown : Int32) (xMkept : Nat → Int32) (xMisKept : Nat → Int32), lp (fun _ _ _ _ _ => none) (fX5_keep_b26_S xMpage ) n j1 j2 xM_thrown xMkept xMisKept = some z → kG X 26 [(0, .ref aM), (1, .int j1), (2, .int j2)] [] [oO aM 4 [.int xM_thrown, .ref aMtext, .int xM_textSize, .int xM_place, .int xM_walkers, .int xM_light, .int xM_water, .ref aMnerve, .ref aMkind, .int xM_readWalkers, .int xM_readLight, .int xM_readWater, .ref aMreadNerve, .ref aMreadKind, .ref aMpage, .ref aMtrial, .ref aMbook, .int xM_acts, .ref aMkept, .ref aMisKept, .int xM_told, .ref aMtoldMinute, .ref aMtoldHeard, .long xM_seed, .int xM_orderBest, .int xM_orderMany, .ref aMworth, .int xM_turned], oI aMpage iMpage 13 xMpage, oI aMkept iMkept 26 xMkept, oI aMisKept iMisKept 2 xMisKept] := by
    intro  n
    induction n with
    | zero => intro j1 j2 xM_thrown xMkept xMisKept hf; cases hf
    | succ n hk26 =>
      intro j1 j2 xM_thrown xMkept xMisKept hf
      rw [lp_s] at hf
      revert hf hk26
      generalize lp (fun _ _ _ _ _ => none) (fX5_keep_b26_S xMpage ) n = k26
      intro hk26 hf
      unfold fX5_keep_b26_S at hf
      refine g_iload_n hC 2 dX5_keep_26 rfl rfl ?_
      refine g_bipush (v := (13 : Int32)) hC dX5_keep_27 cb_13 ?_
      refine g_icmp_ge (tgt := 55) hC dX5_keep_29 (by decide) (fun hc => ?_) (fun hc => ?_)
      · replace hf := gd_t hc hf
        refine g_aload_n hC 0 dX5_keep_55 rfl rfl ?_
        refine g_get (C := RX5) (T := TX5) (N := 28) (v := .ref aMpage) hC hinX5 0 14 rfl rfl (by decide) (List.mem_of_getElem? (i := 4) rfl) rfl dX5_keep_56 ?_
        refine g_bipush (v := (11 : Int32)) hC dX5_keep_59 cb_11 ?_
        obtain ⟨hg, hf⟩ := gd_ga hf
        refine g_iald hC 1 0 hg rfl rfl dX5_keep_61 ?_
        exact hQ ((xMpage (11 : Int32).toNatClampNeg), xM_thrown, xMkept, xMisKept) _ _ (gd_s hf) dX5_keep_62
      · replace hf := gd_f hc hf
        refine g_aload_n hC 0 dX5_keep_32 rfl rfl ?_
        refine g_get (C := RX5) (T := TX5) (N := 28) (v := .ref aMkept) hC hinX5 0 18 rfl rfl (by decide) (List.mem_of_getElem? (i := 3) rfl) rfl dX5_keep_33 ?_
        refine g_bipush (v := (13 : Int32)) hC dX5_keep_36 cb_13 ?_
        refine g_iload_n hC 1 dX5_keep_38 rfl rfl ?_
        refine g_imul hC dX5_keep_39 ?_
        refine g_iload_n hC 2 dX5_keep_40 rfl rfl ?_
        refine g_iadd hC dX5_keep_41 ?_
        refine g_aload_n hC 0 dX5_keep_42 rfl rfl ?_
        refine g_get (C := RX5) (T := TX5) (N := 28) (v := .ref aMpage) hC hinX5 0 14 rfl rfl (by decide) (List.mem_of_getElem? (i := 4) rfl) rfl dX5_keep_43 ?_
        refine g_iload_n hC 2 dX5_keep_46 rfl rfl ?_
        obtain ⟨hg, hf⟩ := gd_ga hf
        refine g_iald hC 1 0 hg rfl rfl dX5_keep_47 ?_
        obtain ⟨hg, hf⟩ := gd_ga hf
        refine g_iast (ws' := [oO aM 4 [.int xM_thrown, .ref aMtext, .int xM_textSize, .int xM_place, .int xM_walkers, .int xM_light, .int xM_water, .ref aMnerve, .ref aMkind, .int xM_readWalkers, .int xM_readLight, .int xM_readWater, .ref aMreadNerve, .ref aMreadKind, .ref aMpage, .ref aMtrial, .ref aMbook, .int xM_acts, .ref aMkept, .ref aMisKept, .int xM_told, .ref aMtoldMinute, .ref aMtoldHeard, .long xM_seed, .int xM_orderBest, .int xM_orderMany, .ref aMworth, .int xM_turned], oI aMpage iMpage 13 xMpage, oI aMkept iMkept 26 (upd xMkept (((13 : Int32) * j1) + j2).toNatClampNeg (xMpage j2.toNatClampNeg)), oI aMisKept iMisKept 2 xMisKept]) hC 2 1 hg rfl rfl dX5_keep_48 rfl ?_
        refine g_iinc (v := (j2 + (1 : Int32))) (lv' := [(2, .int (j2 + (1 : Int32))), (0, .ref aM), (1, .int j1)]) hC 2 dX5_keep_49 rfl (ii _ ci_1) (by decide) rfl ?_
        refine g_goto (tgt := 26) hC dX5_keep_52 (by decide) ?_
        refine g_lv (lv' := [(0, .ref aM), (1, .int j1), (2, .int (j2 + (1 : Int32)))]) [1, 2, 0] rfl ?_
        exact hk26 j1 (j2 + (1 : Int32)) xM_thrown (upd xMkept (((13 : Int32) * j1) + j2).toNatClampNeg (xMpage j2.toNatClampNeg)) xMisKept hf
  unfold fX5_keep at hf
  refine g_aload_n hC 0 dX5_keep_0 rfl rfl ?_
  refine g_iconst (v := (0 : Int32)) hC dX5_keep_1 ci_0 ?_
  refine g_put (C := RX5) (T := TX5) (N := 28) (ty := .int) (ws' := [oO aM 4 [.int (0 : Int32), .ref aMtext, .int xM_textSize, .int xM_place, .int xM_walkers, .int xM_light, .int xM_water, .ref aMnerve, .ref aMkind, .int xM_readWalkers, .int xM_readLight, .int xM_readWater, .ref aMreadNerve, .ref aMreadKind, .ref aMpage, .ref aMtrial, .ref aMbook, .int xM_acts, .ref aMkept, .ref aMisKept, .int xM_told, .ref aMtoldMinute, .ref aMtoldHeard, .long xM_seed, .int xM_orderBest, .int xM_orderMany, .ref aMworth, .int xM_turned], oI aMpage iMpage 13 xMpage, oI aMkept iMkept 26 xMkept, oI aMisKept iMisKept 2 xMisKept]) hC tyX5_ok nmX5 hinX5 0 0 rfl rfl (by decide) (List.mem_of_getElem? (i := 1) rfl) rfl rfl rfl rfl (Nat.le_of_ble_eq_true rfl) dX5_keep_2 rfl ?_
  refine g_iload_n hC 1 dX5_keep_5 rfl rfl ?_
  refine g_i2l hC dX5_keep_6 ?_
  refine g_lconst (v := (0 : Int64)) hC dX5_keep_7 rfl ?_
  refine g_lconst (v := (1 : Int64)) hC dX5_keep_8 rfl ?_
  obtain ⟨z9, hz9, hf⟩ := gd_b hf
  refine g_callSi (wr := [oO aM 4 [.int (0 : Int32), .ref aMtext, .int xM_textSize, .int xM_place, .int xM_walkers, .int xM_light, .int xM_water, .ref aMnerve, .ref aMkind, .int xM_readWalkers, .int xM_readLight, .int xM_readWater, .ref aMreadNerve, .ref aMreadKind, .ref aMpage, .ref aMtrial, .ref aMbook, .int xM_acts, .ref aMkept, .ref aMisKept, .int xM_told, .ref aMtoldMinute, .ref aMtoldHeard, .long xM_seed, .int xM_orderBest, .int xM_orderMany, .ref aMworth, .int xM_turned], oI aMpage iMpage 13 xMpage, oI aMkept iMkept 26 xMkept, oI aMisKept iMisKept 2 xMisKept]) (wn := [oO aM 4 [.int (0 : Int32), .ref aMtext, .int xM_textSize, .int xM_place, .int xM_walkers, .int xM_light, .int xM_water, .ref aMnerve, .ref aMkind, .int xM_readWalkers, .int xM_readLight, .int xM_readWater, .ref aMreadNerve, .ref aMreadKind, .ref aMpage, .ref aMtrial, .ref aMbook, .int xM_acts, .ref aMkept, .ref aMisKept, .int xM_told, .ref aMtoldMinute, .ref aMtoldHeard, .long xM_seed, .int xM_orderBest, .int xM_orderMany, .ref aMworth, .int xM_turned], oI aMpage iMpage 13 xMpage, oI aMkept iMkept 26 xMkept, oI aMisKept iMisKept 2 xMisKept]) hC [.long j1.toInt64, .long (0 : Int64), .long (1 : Int64)] (cX5_in_m (kl X) (kD X) j1.toInt64 (0 : Int64) (1 : Int64) z9 hz9) gX5_keep_X5_in rfl kyX5_in rfl [] [0, 1, 2, 3] [] [0, 1, 2, 3] rfl rfl rfl rfl (by decide) rfl rfl rfl ⟨rfl, rfl⟩ ⟨Nat.le_of_ble_eq_true rfl, Nat.le_of_ble_eq_true rfl⟩ (Nat.le_of_ble_eq_true rfl) rfl dX5_keep_9 ?_
  refine g_if_ne (tgt := 17) hC dX5_keep_12 (by decide) (fun hc => ?_) (fun hc => ?_)
  · replace hf := gd_f hc hf
    refine g_aload_n hC 0 dX5_keep_17 rfl rfl ?_
    refine g_get (C := RX5) (T := TX5) (N := 28) (v := .ref aMisKept) hC hinX5 0 19 rfl rfl (by decide) (List.mem_of_getElem? (i := 2) rfl) rfl dX5_keep_18 ?_
    refine g_iload_n hC 1 dX5_keep_21 rfl rfl ?_
    refine g_iconst (v := (1 : Int32)) hC dX5_keep_22 ci_1 ?_
    obtain ⟨hg, hf⟩ := gd_ga hf
    refine g_zast (ws' := [oO aM 4 [.int (0 : Int32), .ref aMtext, .int xM_textSize, .int xM_place, .int xM_walkers, .int xM_light, .int xM_water, .ref aMnerve, .ref aMkind, .int xM_readWalkers, .int xM_readLight, .int xM_readWater, .ref aMreadNerve, .ref aMreadKind, .ref aMpage, .ref aMtrial, .ref aMbook, .int xM_acts, .ref aMkept, .ref aMisKept, .int xM_told, .ref aMtoldMinute, .ref aMtoldHeard, .long xM_seed, .int xM_orderBest, .int xM_orderMany, .ref aMworth, .int xM_turned], oI aMpage iMpage 13 xMpage, oI aMkept iMkept 26 xMkept, oI aMisKept iMisKept 2 (upd xMisKept j1.toNatClampNeg (vp_nar .boolean (1 : Int32)))]) hC 3 2 hg rfl rfl dX5_keep_23 rfl ?_
    refine g_iconst (v := (0 : Int32)) hC dX5_keep_24 ci_0 ?_
    refine g_istore_n (lv' := [(2, .int (0 : Int32)), (0, .ref aM), (1, .int j1)]) hC dX5_keep_25 rfl (by decide) rfl ?_
    refine g_lv (lv' := [(0, .ref aM), (1, .int j1), (2, .int (0 : Int32))]) [1, 2, 0] rfl ?_
    exact t26  fu j1 (0 : Int32) (0 : Int32) xMkept (upd xMisKept j1.toNatClampNeg (vp_nar .boolean (1 : Int32))) hf
  · replace hf := gd_t hc hf
    refine g_iconst (v := (-1 : Int32)) hC dX5_keep_15 ci_m1 ?_
    exact hQ ((-1 : Int32), (0 : Int32), xMkept, xMisKept) _ _ (gd_s hf) dX5_keep_16
theorem kyX5_again : yX5_again.cls = RX5 ∧ yX5_again.cls ≠ "java/lang/invoke/MethodHandle" ∧ yX5_again.cls ≠ "java/lang/invoke/VarHandle" ∧ (parseMethodDescriptor yX5_again.desc).map (fun d => d.parameters.length) = some 1 := by decide +kernel
set_option maxHeartbeats 4000000 in
set_option maxRecDepth 100000 in
theorem cX5_again_m (l : Launch) (D : va_G) (aM aMtext aMnerve aMkind aMreadNerve aMreadKind aMpage aMtrial aMbook aMkept aMisKept aMtoldMinute aMtoldHeard aMworth : Nat) (iMpage iMkept iMisKept : ClassId) (xM_thrown : Int32) (xM_textSize : Int32) (xM_place : Int32) (xM_walkers : Int32) (xM_light : Int32) (xM_water : Int32) (xM_readWalkers : Int32) (xM_readLight : Int32) (xM_readWater : Int32) (xM_acts : Int32) (xM_told : Int32) (xM_seed : Int64) (xM_orderBest : Int32) (xM_orderMany : Int32) (xM_turned : Int32) (xMpage : Nat → Int32) (xMkept : Nat → Int32) (xMisKept : Nat → Int32) (j1 : Int32) (z : Int32 × Int32 × Int32 × (Nat → Int32)) (hf : fX5_again j1 xM_thrown xM_acts xMpage xMkept xMisKept = some z) : ∀ sz : Nat, Met l yX5_again wsX5_again ({ frames := 1, cells := 0, slots := 0, locals := 25 } : Room) (kPre D [(iMpage, .int), (iMkept, .int), (iMisKept, .boolean)] [oO aM 4 [.int xM_thrown, .ref aMtext, .int xM_textSize, .int xM_place, .int xM_walkers, .int xM_light, .int xM_water, .ref aMnerve, .ref aMkind, .int xM_readWalkers, .int xM_readLight, .int xM_readWater, .ref aMreadNerve, .ref aMreadKind, .ref aMpage, .ref aMtrial, .ref aMbook, .int xM_acts, .ref aMkept, .ref aMisKept, .int xM_told, .ref aMtoldMinute, .ref aMtoldHeard, .long xM_seed, .int xM_orderBest, .int xM_orderMany, .ref aMworth, .int xM_turned], oI aMpage iMpage 13 xMpage, oI aMkept iMkept 26 xMkept, oI aMisKept iMisKept 2 xMisKept] sz [.ref aM, .int j1]) (kQi D [(iMpage, .int), (iMkept, .int), (iMisKept, .boolean)] [oO aM 4 [.int xM_thrown, .ref aMtext, .int xM_textSize, .int xM_place, .int xM_walkers, .int xM_light, .int xM_water, .ref aMnerve, .ref aMkind, .int xM_readWalkers, .int xM_readLight, .int xM_readWater, .ref aMreadNerve, .ref aMreadKind, .ref aMpage, .ref aMtrial, .ref aMbook, .int xM_acts, .ref aMkept, .ref aMisKept, .int xM_told, .ref aMtoldMinute, .ref aMtoldHeard, .long xM_seed, .int xM_orderBest, .int xM_orderMany, .ref aMworth, .int xM_turned], oI aMpage iMpage 13 xMpage, oI aMkept iMkept 26 xMkept, oI aMisKept iMisKept 2 xMisKept] sz [oO aM 4 [.int z.2.1, .ref aMtext, .int xM_textSize, .int xM_place, .int xM_walkers, .int xM_light, .int xM_water, .ref aMnerve, .ref aMkind, .int xM_readWalkers, .int xM_readLight, .int xM_readWater, .ref aMreadNerve, .ref aMreadKind, .ref aMpage, .ref aMtrial, .ref aMbook, .int z.2.2.1, .ref aMkept, .ref aMisKept, .int xM_told, .ref aMtoldMinute, .ref aMtoldHeard, .long xM_seed, .int xM_orderBest, .int xM_orderMany, .ref aMworth, .int xM_turned], oI aMpage iMpage 13 z.2.2.2, oI aMkept iMkept 26 xMkept, oI aMisKept iMisKept 2 xMisKept] z.1) 0 0 (va_A [oO aM 4 [.int xM_thrown, .ref aMtext, .int xM_textSize, .int xM_place, .int xM_walkers, .int xM_light, .int xM_water, .ref aMnerve, .ref aMkind, .int xM_readWalkers, .int xM_readLight, .int xM_readWater, .ref aMreadNerve, .ref aMreadKind, .ref aMpage, .ref aMtrial, .ref aMbook, .int xM_acts, .ref aMkept, .ref aMisKept, .int xM_told, .ref aMtoldMinute, .ref aMtoldHeard, .long xM_seed, .int xM_orderBest, .int xM_orderMany, .ref aMworth, .int xM_turned], oI aMpage iMpage 13 xMpage, oI aMkept iMkept 26 xMkept, oI aMisKept iMisKept 2 xMisKept] sz) := by
  refine kMet_i (own := RX5) z (fun u => u.1) (fun u => [oO aM 4 [.int u.2.1, .ref aMtext, .int xM_textSize, .int xM_place, .int xM_walkers, .int xM_light, .int xM_water, .ref aMnerve, .ref aMkind, .int xM_readWalkers, .int xM_readLight, .int xM_readWater, .ref aMreadNerve, .ref aMreadKind, .ref aMpage, .ref aMtrial, .ref aMbook, .int u.2.2.1, .ref aMkept, .ref aMisKept, .int xM_told, .ref aMtoldMinute, .ref aMtoldHeard, .long xM_seed, .int xM_orderBest, .int xM_orderMany, .ref aMworth, .int xM_turned], oI aMpage iMpage 13 u.2.2.2, oI aMkept iMkept 26 xMkept, oI aMisKept iMisKept 2 xMisKept]) rfl (by decide) rfl ⟨rfl, rfl⟩ (Nat.le_of_ble_eq_true rfl) ?_
  intro X hXl hXD hC hQ
  subst hXl
  subst hXD
  change kG X 0 [(0, .ref aM), (1, .int j1)] [] [oO aM 4 [.int xM_thrown, .ref aMtext, .int xM_textSize, .int xM_place, .int xM_walkers, .int xM_light, .int xM_water, .ref aMnerve, .ref aMkind, .int xM_readWalkers, .int xM_readLight, .int xM_readWater, .ref aMreadNerve, .ref aMreadKind, .ref aMpage, .ref aMtrial, .ref aMbook, .int xM_acts, .ref aMkept, .ref aMisKept, .int xM_told, .ref aMtoldMinute, .ref aMtoldHeard, .long xM_seed, .int xM_orderBest, .int xM_orderMany, .ref aMworth, .int xM_turned], oI aMpage iMpage 13 xMpage, oI aMkept iMkept 26 xMkept, oI aMisKept iMisKept 2 xMisKept]
  have hinX5 : ∀ w ∈ wsX50, w ∈ wsX5_again := fun _ h => List.mem_cons_of_mem _ (List.mem_append_right _ h)
  have t31 : ∀  (n : Nat) (j1 : Int32) (j2 : Int32) (xM_thrown : Int32) (xM_acts : Int32) (xMpage : Nat → Int32), lp (fun _ _ _ _ _ => none) (fX5_again_b31_S xMkept xMisKept ) n j1 j2 xM_thrown xM_acts xMpage = some z → kG X 31 [(0, .ref aM), (1, .int j1), (2, .int j2)] [] [oO aM 4 [.int xM_thrown, .ref aMtext, .int xM_textSize, .int xM_place, .int xM_walkers, .int xM_light, .int xM_water, .ref aMnerve, .ref aMkind, .int xM_readWalkers, .int xM_readLight, .int xM_readWater, .ref aMreadNerve, .ref aMreadKind, .ref aMpage, .ref aMtrial, .ref aMbook, .int xM_acts, .ref aMkept, .ref aMisKept, .int xM_told, .ref aMtoldMinute, .ref aMtoldHeard, .long xM_seed, .int xM_orderBest, .int xM_orderMany, .ref aMworth, .int xM_turned], oI aMpage iMpage 13 xMpage, oI aMkept iMkept 26 xMkept, oI aMisKept iMisKept 2 xMisKept] := by
    intro  n
    induction n with
    | zero => intro j1 j2 xM_thrown xM_acts xMpage hf; cases hf
    | succ n hk31 =>
      intro j1 j2 xM_thrown xM_acts xMpage hf
      rw [lp_s] at hf
      revert hf hk31
      generalize lp (fun _ _ _ _ _ => none) (fX5_again_b31_S xMkept xMisKept ) n = k31
      intro hk31 hf
      unfold fX5_again_b31_S at hf
      refine g_iload_n hC 2 dX5_again_31 rfl rfl ?_
      refine g_bipush (v := (13 : Int32)) hC dX5_again_32 cb_13 ?_
      refine g_icmp_ge (tgt := 60) hC dX5_again_34 (by decide) (fun hc => ?_) (fun hc => ?_)
      · replace hf := gd_t hc hf
        refine g_aload_n hC 0 dX5_again_60 rfl rfl ?_
        refine g_iconst (v := (0 : Int32)) hC dX5_again_61 ci_0 ?_
        refine g_put (C := RX5) (T := TX5) (N := 28) (ty := .int) (ws' := [oO aM 4 [.int xM_thrown, .ref aMtext, .int xM_textSize, .int xM_place, .int xM_walkers, .int xM_light, .int xM_water, .ref aMnerve, .ref aMkind, .int xM_readWalkers, .int xM_readLight, .int xM_readWater, .ref aMreadNerve, .ref aMreadKind, .ref aMpage, .ref aMtrial, .ref aMbook, .int (0 : Int32), .ref aMkept, .ref aMisKept, .int xM_told, .ref aMtoldMinute, .ref aMtoldHeard, .long xM_seed, .int xM_orderBest, .int xM_orderMany, .ref aMworth, .int xM_turned], oI aMpage iMpage 13 xMpage, oI aMkept iMkept 26 xMkept, oI aMisKept iMisKept 2 xMisKept]) hC tyX5_ok nmX5 hinX5 0 17 rfl rfl (by decide) (List.mem_of_getElem? (i := 5) rfl) rfl rfl rfl rfl (Nat.le_of_ble_eq_true rfl) dX5_again_62 rfl ?_
        refine g_aload_n hC 0 dX5_again_65 rfl rfl ?_
        refine g_get (C := RX5) (T := TX5) (N := 28) (v := .ref aMpage) hC hinX5 0 14 rfl rfl (by decide) (List.mem_of_getElem? (i := 3) rfl) rfl dX5_again_66 ?_
        refine g_bipush (v := (11 : Int32)) hC dX5_again_69 cb_11 ?_
        obtain ⟨hg, hf⟩ := gd_ga hf
        refine g_iald hC 1 0 hg rfl rfl dX5_again_71 ?_
        exact hQ ((xMpage (11 : Int32).toNatClampNeg), xM_thrown, (0 : Int32), xMpage) _ _ (gd_s hf) dX5_again_72
      · replace hf := gd_f hc hf
        refine g_aload_n hC 0 dX5_again_37 rfl rfl ?_
        refine g_get (C := RX5) (T := TX5) (N := 28) (v := .ref aMpage) hC hinX5 0 14 rfl rfl (by decide) (List.mem_of_getElem? (i := 3) rfl) rfl dX5_again_38 ?_
        refine g_iload_n hC 2 dX5_again_41 rfl rfl ?_
        refine g_aload_n hC 0 dX5_again_42 rfl rfl ?_
        refine g_get (C := RX5) (T := TX5) (N := 28) (v := .ref aMkept) hC hinX5 0 18 rfl rfl (by decide) (List.mem_of_getElem? (i := 4) rfl) rfl dX5_again_43 ?_
        refine g_bipush (v := (13 : Int32)) hC dX5_again_46 cb_13 ?_
        refine g_iload_n hC 1 dX5_again_48 rfl rfl ?_
        refine g_imul hC dX5_again_49 ?_
        refine g_iload_n hC 2 dX5_again_50 rfl rfl ?_
        refine g_iadd hC dX5_again_51 ?_
        obtain ⟨hg, hf⟩ := gd_ga hf
        refine g_iald hC 2 1 hg rfl rfl dX5_again_52 ?_
        obtain ⟨hg, hf⟩ := gd_ga hf
        refine g_iast (ws' := [oO aM 4 [.int xM_thrown, .ref aMtext, .int xM_textSize, .int xM_place, .int xM_walkers, .int xM_light, .int xM_water, .ref aMnerve, .ref aMkind, .int xM_readWalkers, .int xM_readLight, .int xM_readWater, .ref aMreadNerve, .ref aMreadKind, .ref aMpage, .ref aMtrial, .ref aMbook, .int xM_acts, .ref aMkept, .ref aMisKept, .int xM_told, .ref aMtoldMinute, .ref aMtoldHeard, .long xM_seed, .int xM_orderBest, .int xM_orderMany, .ref aMworth, .int xM_turned], oI aMpage iMpage 13 (upd xMpage j2.toNatClampNeg (xMkept (((13 : Int32) * j1) + j2).toNatClampNeg)), oI aMkept iMkept 26 xMkept, oI aMisKept iMisKept 2 xMisKept]) hC 1 0 hg rfl rfl dX5_again_53 rfl ?_
        refine g_iinc (v := (j2 + (1 : Int32))) (lv' := [(2, .int (j2 + (1 : Int32))), (0, .ref aM), (1, .int j1)]) hC 2 dX5_again_54 rfl (ii _ ci_1) (by decide) rfl ?_
        refine g_goto (tgt := 31) hC dX5_again_57 (by decide) ?_
        refine g_lv (lv' := [(0, .ref aM), (1, .int j1), (2, .int (j2 + (1 : Int32)))]) [1, 2, 0] rfl ?_
        exact hk31 j1 (j2 + (1 : Int32)) xM_thrown xM_acts (upd xMpage j2.toNatClampNeg (xMkept (((13 : Int32) * j1) + j2).toNatClampNeg)) hf
  unfold fX5_again at hf
  refine g_aload_n hC 0 dX5_again_0 rfl rfl ?_
  refine g_iconst (v := (0 : Int32)) hC dX5_again_1 ci_0 ?_
  refine g_put (C := RX5) (T := TX5) (N := 28) (ty := .int) (ws' := [oO aM 4 [.int (0 : Int32), .ref aMtext, .int xM_textSize, .int xM_place, .int xM_walkers, .int xM_light, .int xM_water, .ref aMnerve, .ref aMkind, .int xM_readWalkers, .int xM_readLight, .int xM_readWater, .ref aMreadNerve, .ref aMreadKind, .ref aMpage, .ref aMtrial, .ref aMbook, .int xM_acts, .ref aMkept, .ref aMisKept, .int xM_told, .ref aMtoldMinute, .ref aMtoldHeard, .long xM_seed, .int xM_orderBest, .int xM_orderMany, .ref aMworth, .int xM_turned], oI aMpage iMpage 13 xMpage, oI aMkept iMkept 26 xMkept, oI aMisKept iMisKept 2 xMisKept]) hC tyX5_ok nmX5 hinX5 0 0 rfl rfl (by decide) (List.mem_of_getElem? (i := 1) rfl) rfl rfl rfl rfl (Nat.le_of_ble_eq_true rfl) dX5_again_2 rfl ?_
  refine g_iload_n hC 1 dX5_again_5 rfl rfl ?_
  refine g_i2l hC dX5_again_6 ?_
  refine g_lconst (v := (0 : Int64)) hC dX5_again_7 rfl ?_
  refine g_lconst (v := (1 : Int64)) hC dX5_again_8 rfl ?_
  obtain ⟨z9, hz9, hf⟩ := gd_b hf
  refine g_callSi (wr := [oO aM 4 [.int (0 : Int32), .ref aMtext, .int xM_textSize, .int xM_place, .int xM_walkers, .int xM_light, .int xM_water, .ref aMnerve, .ref aMkind, .int xM_readWalkers, .int xM_readLight, .int xM_readWater, .ref aMreadNerve, .ref aMreadKind, .ref aMpage, .ref aMtrial, .ref aMbook, .int xM_acts, .ref aMkept, .ref aMisKept, .int xM_told, .ref aMtoldMinute, .ref aMtoldHeard, .long xM_seed, .int xM_orderBest, .int xM_orderMany, .ref aMworth, .int xM_turned], oI aMpage iMpage 13 xMpage, oI aMkept iMkept 26 xMkept, oI aMisKept iMisKept 2 xMisKept]) (wn := [oO aM 4 [.int (0 : Int32), .ref aMtext, .int xM_textSize, .int xM_place, .int xM_walkers, .int xM_light, .int xM_water, .ref aMnerve, .ref aMkind, .int xM_readWalkers, .int xM_readLight, .int xM_readWater, .ref aMreadNerve, .ref aMreadKind, .ref aMpage, .ref aMtrial, .ref aMbook, .int xM_acts, .ref aMkept, .ref aMisKept, .int xM_told, .ref aMtoldMinute, .ref aMtoldHeard, .long xM_seed, .int xM_orderBest, .int xM_orderMany, .ref aMworth, .int xM_turned], oI aMpage iMpage 13 xMpage, oI aMkept iMkept 26 xMkept, oI aMisKept iMisKept 2 xMisKept]) hC [.long j1.toInt64, .long (0 : Int64), .long (1 : Int64)] (cX5_in_m (kl X) (kD X) j1.toInt64 (0 : Int64) (1 : Int64) z9 hz9) gX5_again_X5_in rfl kyX5_in rfl [] [0, 1, 2, 3] [] [0, 1, 2, 3] rfl rfl rfl rfl (by decide) rfl rfl rfl ⟨rfl, rfl⟩ ⟨Nat.le_of_ble_eq_true rfl, Nat.le_of_ble_eq_true rfl⟩ (Nat.le_of_ble_eq_true rfl) rfl dX5_again_9 ?_
  refine g_if_ne (tgt := 17) hC dX5_again_12 (by decide) (fun hc => ?_) (fun hc => ?_)
  · replace hf := gd_f hc hf
    refine g_aload_n hC 0 dX5_again_17 rfl rfl ?_
    refine g_get (C := RX5) (T := TX5) (N := 28) (v := .ref aMisKept) hC hinX5 0 19 rfl rfl (by decide) (List.mem_of_getElem? (i := 2) rfl) rfl dX5_again_18 ?_
    refine g_iload_n hC 1 dX5_again_21 rfl rfl ?_
    obtain ⟨hg, hf⟩ := gd_ga hf
    refine g_zald hC 3 2 hg rfl rfl dX5_again_22 ?_
    refine g_if_ne (tgt := 29) hC dX5_again_23 (by decide) (fun hc => ?_) (fun hc => ?_)
    · replace hf := gd_f hc hf
      refine g_iconst (v := (0 : Int32)) hC dX5_again_29 ci_0 ?_
      refine g_istore_n (lv' := [(2, .int (0 : Int32)), (0, .ref aM), (1, .int j1)]) hC dX5_again_30 rfl (by decide) rfl ?_
      refine g_lv (lv' := [(0, .ref aM), (1, .int j1), (2, .int (0 : Int32))]) [1, 2, 0] rfl ?_
      exact t31  fu j1 (0 : Int32) (0 : Int32) xM_acts xMpage hf
    · replace hf := gd_t hc hf
      refine g_bipush (v := (-3 : Int32)) hC dX5_again_26 cb_m3 ?_
      exact hQ ((-3 : Int32), (0 : Int32), xM_acts, xMpage) _ _ (gd_s hf) dX5_again_28
  · replace hf := gd_t hc hf
    refine g_iconst (v := (-1 : Int32)) hC dX5_again_15 ci_m1 ?_
    exact hQ ((-1 : Int32), (0 : Int32), xM_acts, xMpage) _ _ (gd_s hf) dX5_again_16
