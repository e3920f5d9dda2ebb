theorem cb_m9 : (Int8.ofInt (-9)).toInt32 = (-9 : Int32) := by decide
theorem cb_m4 : (Int8.ofInt (-4)).toInt32 = (-4 : Int32) := by decide
theorem cb_m3 : (Int8.ofInt (-3)).toInt32 = (-3 : Int32) := by decide
theorem cb_m2 : (Int8.ofInt (-2)).toInt32 = (-2 : Int32) := by decide
theorem cb_6 : (Int8.ofInt (6)).toInt32 = (6 : Int32) := by decide
theorem cb_8 : (Int8.ofInt (8)).toInt32 = (8 : Int32) := by decide
theorem cb_9 : (Int8.ofInt (9)).toInt32 = (9 : Int32) := by decide
theorem cb_10 : (Int8.ofInt (10)).toInt32 = (10 : Int32) := by decide
theorem cb_11 : (Int8.ofInt (11)).toInt32 = (11 : Int32) := by decide
theorem cb_12 : (Int8.ofInt (12)).toInt32 = (12 : Int32) := by decide
theorem cb_13 : (Int8.ofInt (13)).toInt32 = (13 : Int32) := by decide
theorem cb_14 : (Int8.ofInt (14)).toInt32 = (14 : Int32) := by decide
theorem cb_15 : (Int8.ofInt (15)).toInt32 = (15 : Int32) := by decide
theorem cb_16 : (Int8.ofInt (16)).toInt32 = (16 : Int32) := by decide
theorem cb_18 : (Int8.ofInt (18)).toInt32 = (18 : Int32) := by decide
theorem cb_20 : (Int8.ofInt (20)).toInt32 = (20 : Int32) := by decide
theorem cb_31 : (Int8.ofInt (31)).toInt32 = (31 : Int32) := by decide
theorem cb_32 : (Int8.ofInt (32)).toInt32 = (32 : Int32) := by decide
theorem cb_33 : (Int8.ofInt (33)).toInt32 = (33 : Int32) := by decide
theorem cb_40 : (Int8.ofInt (40)).toInt32 = (40 : Int32) := by decide
theorem cb_48 : (Int8.ofInt (48)).toInt32 = (48 : Int32) := by decide
theorem cb_50 : (Int8.ofInt (50)).toInt32 = (50 : Int32) := by decide
theorem cb_63 : (Int8.ofInt (63)).toInt32 = (63 : Int32) := by decide
theorem cb_71 : (Int8.ofInt (71)).toInt32 = (71 : Int32) := by decide
theorem cb_87 : (Int8.ofInt (87)).toInt32 = (87 : Int32) := by decide
theorem cb_100 : (Int8.ofInt (100)).toInt32 = (100 : Int32) := by decide
theorem cb_120 : (Int8.ofInt (120)).toInt32 = (120 : Int32) := by decide
theorem ci_m1 : Int32.ofInt (-1) = (-1 : Int32) := by decide
theorem ci_0 : Int32.ofInt (0) = (0 : Int32) := by decide
theorem ci_1 : Int32.ofInt (1) = (1 : Int32) := by decide
theorem ci_2 : Int32.ofInt (2) = (2 : Int32) := by decide
theorem ci_3 : Int32.ofInt (3) = (3 : Int32) := by decide
theorem ci_4 : Int32.ofInt (4) = (4 : Int32) := by decide
theorem ci_5 : Int32.ofInt (5) = (5 : Int32) := by decide
theorem ci_6 : Int32.ofInt (6) = (6 : Int32) := by decide
theorem cn_2 : Int32.ofNat 2 = (2 : Int32) := by decide
theorem cn_14 : Int32.ofNat 14 = (14 : Int32) := by decide
theorem cn_32 : Int32.ofNat 32 = (32 : Int32) := by decide
theorem cs_169 : (Int16.ofInt (169)).toInt32 = (169 : Int32) := by decide
theorem cs_255 : (Int16.ofInt (255)).toInt32 = (255 : Int32) := by decide
theorem ii (x : Int32) {n : Int} {v : Int32} (h : Int32.ofInt n = v) : x + Int32.ofInt n = x + v := by rw [h]
-- J6_bitCount_0f7a4
noncomputable def fJ6_bitCount_0f7a4_b48  (j0 : Int32) : Option (Int32) :=
  some ((j0 &&& (63 : Int32)))
noncomputable def fJ6_bitCount_0f7a4_b41  (j0 : Int32) : Option (Int32) :=
  fJ6_bitCount_0f7a4_b48  (j0 + ((j0.toUInt32 >>> ((16 : Int32).toUInt32 &&& Int32.toUInt32 31)).toInt32))
noncomputable def fJ6_bitCount_0f7a4_b34  (j0 : Int32) : Option (Int32) :=
  fJ6_bitCount_0f7a4_b41  (j0 + ((j0.toUInt32 >>> ((8 : Int32).toUInt32 &&& Int32.toUInt32 31)).toInt32))
noncomputable def fJ6_bitCount_0f7a4_b24  (j0 : Int32) : Option (Int32) :=
  fJ6_bitCount_0f7a4_b34  ((j0 + ((j0.toUInt32 >>> ((4 : Int32).toUInt32 &&& Int32.toUInt32 31)).toInt32)) &&& (252645135 : Int32))
noncomputable def fJ6_bitCount_0f7a4_b10  (j0 : Int32) : Option (Int32) :=
  fJ6_bitCount_0f7a4_b24  ((j0 &&& (858993459 : Int32)) + (((j0.toUInt32 >>> ((2 : Int32).toUInt32 &&& Int32.toUInt32 31)).toInt32) &&& (858993459 : Int32)))
noncomputable def fJ6_bitCount_0f7a4 (j0 : Int32)  : Option (Int32) :=
  fJ6_bitCount_0f7a4_b10  (j0 - (((j0.toUInt32 >>> ((1 : Int32).toUInt32 &&& Int32.toUInt32 31)).toInt32) &&& (1431655765 : Int32)))
-- X4_within
noncomputable def fX4_within (j0 : Int32) (j1 : Int32) (j2 : Int32)  : Option (Int32) :=
  if j0 < j1 then (some ((0 : Int32))) else (if j2 < j0 then (some ((0 : Int32))) else (some ((1 : Int32))))
-- X2_append
noncomputable def fX2_append (j1 : Int32) (xT_length : Int32) (xB : Nat → Int32) : Option (Int32 × Int32 × (Nat → Int32)) :=
  if xT_length < 0 then (some ((0 : Int32), xT_length, xB)) else (if xT_length < (32 : Int32) then (if xT_length < 0 ∨ 32 ≤ xT_length.toNatClampNeg then none else (some ((1 : Int32), (xT_length + (1 : Int32)), (upd xB xT_length.toNatClampNeg j1)))) else (some ((0 : Int32), xT_length, xB)))
-- X2_length
noncomputable def fX2_length  (xT_length : Int32) : Option (Int32) :=
  some (xT_length)
-- X4_write
noncomputable def fX4_write (j1 : Int32) (xT_length : Int32) (xB : Nat → Int32) : Option (Int32 × Int32 × (Nat → Int32)) :=
  (fX4_within j1 (0 : Int32) (255 : Int32)).bind fun z5 => (if z5 = 0 then (some ((-2 : Int32), xT_length, xB)) else ((fX2_append j1 xT_length xB).bind fun z19 => (if z19.1 = 0 then (some ((-4 : Int32), z19.2.1, z19.2.2)) else ((fX2_length z19.2.1).bind fun z29 => (some (z29, z19.2.1, z19.2.2))))))
-- X5_in
noncomputable def fX5_in (j0 : Int64) (j2 : Int64) (j4 : Int64)  : Option (Int32) :=
  if (lg_cmp j0 j2) < 0 then (some ((0 : Int32))) else (if 0 < (lg_cmp j0 j4) then (some ((0 : Int32))) else (some ((1 : Int32))))
-- X5_write
noncomputable def fX5_write (j1 : Int32) (xM_thrown : Int32) (xM_textSize : Int32) (xMtext : Nat → Int32) : Option (Int32 × Int32 × Int32 × (Nat → Int32)) :=
  (fX5_in j1.toInt64 (0 : Int64) (255 : Int64)).bind fun z11 => (if z11 = 0 then (some ((-2 : Int32), (0 : Int32), xM_textSize, xMtext)) else (if xM_textSize = (32 : Int32) then (some ((-4 : Int32), (0 : Int32), xM_textSize, xMtext)) else (if xM_textSize < 0 ∨ 32 ≤ xM_textSize.toNatClampNeg then none else (some ((xM_textSize + (1 : Int32)), (0 : Int32), (xM_textSize + (1 : Int32)), (upd xMtext xM_textSize.toNatClampNeg j1))))))
-- X2_clear
noncomputable def fX2_clear  (xT_length : Int32) : Option (Int32) :=
  some ((0 : Int32))
-- X4_wipe
noncomputable def fX4_wipe  (xT_length : Int32) : Option (Int32 × Int32) :=
  (fX2_length xT_length).bind fun z4 => ((fX2_clear xT_length).bind fun z12 => (some (z4, z12)))
-- X5_wipe
noncomputable def fX5_wipe  (xM_thrown : Int32) (xM_textSize : Int32) : Option (Int32 × Int32 × Int32) :=
  some (xM_textSize, (0 : Int32), (0 : Int32))
-- X2_byteAt
noncomputable def fX2_byteAt (j1 : Int32) (xB : Nat → Int32) : Option (Int32) :=
  if j1 < 0 then (some ((0 : Int32))) else (if (32 : Int32) ≤ j1 then (some ((0 : Int32))) else (if j1 < 0 ∨ 32 ≤ j1.toNatClampNeg then none else (some ((xB j1.toNatClampNeg)))))
-- X2_figure
noncomputable def fX2_figure (j1 : Int32) (xB : Nat → Int32) : Option (Int32) :=
  (fX2_byteAt j1 xB).bind fun z2 => (some ((z2 - (48 : Int32))))
-- X2_fitsPart
noncomputable def fX2_fitsPart (j1 : Int32) (xB : Nat → Int32) : Option (Int32) :=
  if ((j1 - (3 : Int32)) - (j1 - (3 : Int32)) / (3 : Int32) * (3 : Int32)) = (0 : Int32) then ((fX2_byteAt j1 xB).bind fun z34 => (if z34 = (87 : Int32) then (some ((1 : Int32))) else (some ((0 : Int32))))) else (if ((j1 - (3 : Int32)) - (j1 - (3 : Int32)) / (3 : Int32) * (3 : Int32)) = (1 : Int32) then ((fX2_figure j1 xB).bind fun z50 => ((fX4_within z50 (0 : Int32) (5 : Int32)).bind fun z55 => (if z55 = 0 ∨ z55 = 1 then some (z55) else none))) else ((fX2_figure j1 xB).bind fun z61 => ((fX4_within z61 (0 : Int32) (3 : Int32)).bind fun z66 => (if z66 = 0 ∨ z66 = 1 then some (z66) else none))))
-- X2_fits
noncomputable def fX2_fits (j1 : Int32) (xB : Nat → Int32) : Option (Int32) :=
  if j1 = (0 : Int32) then ((fX2_byteAt j1 xB).bind fun z30 => (if z30 = (71 : Int32) then (some ((1 : Int32))) else (some ((0 : Int32))))) else (if j1 = (1 : Int32) then ((fX2_figure j1 xB).bind fun z46 => ((fX4_within z46 (1 : Int32) (9 : Int32)).bind fun z52 => (if z52 = 0 ∨ z52 = 1 then some (z52) else none))) else (if j1 = (2 : Int32) then ((fX2_figure j1 xB).bind fun z58 => ((fX4_within z58 (0 : Int32) (9 : Int32)).bind fun z64 => (if z64 = 0 ∨ z64 = 1 then some (z64) else none))) else (if (18 : Int32) ≤ j1 then (some ((0 : Int32))) else ((fX2_fitsPart j1 xB).bind fun z76 => (if z76 = 0 then (some ((0 : Int32))) else (some ((1 : Int32))))))))
-- X2_firstFault
noncomputable def fX2_firstFault_b50 (xT_length : Int32) (xB : Nat → Int32)  (y0 : Int32) : Option (Int32) :=
  if y0 = 0 then (some (xT_length)) else (some ((-9 : Int32)))
noncomputable def fX2_firstFault_b49 (xT_length : Int32) (xB : Nat → Int32)   : Option (Int32) :=
  fX2_firstFault_b50 xT_length xB  (0 : Int32)
noncomputable def fX2_firstFault_b2_S (xT_length : Int32) (xB : Nat → Int32)  (k2 : Int32 → Option (Int32)) (j1 : Int32) : Option (Int32) :=
  if xT_length ≤ j1 then (if xT_length < (3 : Int32) then (fX2_firstFault_b49 xT_length xB  ) else (if ((xT_length - (3 : Int32)) - (xT_length - (3 : Int32)) / (3 : Int32) * (3 : Int32)) = 0 then (fX2_firstFault_b50 xT_length xB  (1 : Int32)) else (fX2_firstFault_b49 xT_length xB  ))) else ((fX2_fits j1 xB).bind fun z12 => (if z12 = 0 then (some (j1)) else (k2 (j1 + (1 : Int32)))))
noncomputable def fX2_firstFault_b2 (xT_length : Int32) (xB : Nat → Int32)  : Int32 → Option (Int32) := lp (fun _ => none) (fX2_firstFault_b2_S xT_length xB ) fu
noncomputable def fX2_firstFault  (xT_length : Int32) (xB : Nat → Int32) : Option (Int32) :=
  fX2_firstFault_b2 xT_length xB  (0 : Int32)
-- X4_fault
noncomputable def fX4_fault  (xT_length : Int32) (xB : Nat → Int32) : Option (Int32) :=
  (fX2_firstFault xT_length xB).bind fun z4 => (some (z4))
-- X5_figure
noncomputable def fX5_figure (j1 : Int32) (j2 : Int32) (xM_textSize : Int32) (xM_place : Int32) (xMtext : Nat → Int32) : Option (Int32 × Int32) :=
  if xM_place = xM_textSize then (some ((-9 : Int32), xM_place)) else (if xM_place < 0 ∨ 32 ≤ xM_place.toNatClampNeg then none else ((fX5_in (((xMtext xM_place.toNatClampNeg) - (48 : Int32)).toInt64) j1.toInt64 j2.toInt64).bind fun z28 => (if z28 = 0 then (some ((-9 : Int32), xM_place)) else (if ((xM_place + (1 : Int32)) - (1 : Int32)) < 0 ∨ 32 ≤ ((xM_place + (1 : Int32)) - (1 : Int32)).toNatClampNeg then none else (some (((xMtext ((xM_place + (1 : Int32)) - (1 : Int32)).toNatClampNeg) - (48 : Int32)), (xM_place + (1 : Int32))))))))
-- X5_readGorge
noncomputable def fX5_readGorge_b118 (xM_textSize : Int32) (xMtext : Nat → Int32)  (xM_place : Int32) (xM_readWalkers : Int32) (xM_readLight : Int32) (xM_readWater : Int32) (xMreadNerve : Nat → Int32) (xMreadKind : Nat → Int32) : Option (Int32 × Int32 × Int32 × Int32 × Int32 × (Nat → Int32) × (Nat → Int32)) :=
  some (xM_place, xM_place, xM_readWalkers, xM_readLight, xM_readWater, xMreadNerve, xMreadKind)
noncomputable def fX5_readGorge_b157 (xM_textSize : Int32) (xMtext : Nat → Int32) (k85 : Int32 → Int32 → Int32 → Int32 → (Nat → Int32) → (Nat → Int32) → Option (Int32 × Int32 × Int32 × Int32 × Int32 × (Nat → Int32) × (Nat → Int32))) (j1 : Int32) (y0 : Int32) (xM_place : Int32) (xM_readWalkers : Int32) (xM_readLight : Int32) (xM_readWater : Int32) (xMreadNerve : Nat → Int32) (xMreadKind : Nat → Int32) : Option (Int32 × Int32 × Int32 × Int32 × Int32 × (Nat → Int32) × (Nat → Int32)) :=
  if y0 = (-9 : Int32) then (some (xM_place, xM_place, xM_readWalkers, xM_readLight, xM_readWater, xMreadNerve, xMreadKind)) else (if xM_readWalkers < 0 ∨ 5 ≤ xM_readWalkers.toNatClampNeg then none else (if xM_readWalkers < 0 ∨ 5 ≤ xM_readWalkers.toNatClampNeg then none else (k85 xM_place (xM_readWalkers + (1 : Int32)) xM_readLight xM_readWater (upd xMreadNerve xM_readWalkers.toNatClampNeg j1) (upd xMreadKind xM_readWalkers.toNatClampNeg y0))))
noncomputable def fX5_readGorge_b85_S (xM_textSize : Int32) (xMtext : Nat → Int32)  (k85 : Int32 → Int32 → Int32 → Int32 → (Nat → Int32) → (Nat → Int32) → Option (Int32 × Int32 × Int32 × Int32 × Int32 × (Nat → Int32) × (Nat → Int32))) (xM_place : Int32) (xM_readWalkers : Int32) (xM_readLight : Int32) (xM_readWater : Int32) (xMreadNerve : Nat → Int32) (xMreadKind : Nat → Int32) : Option (Int32 × Int32 × Int32 × Int32 × Int32 × (Nat → Int32) × (Nat → Int32)) :=
  if xM_textSize ≤ xM_place then (some ((-9 : Int32), xM_place, xM_readWalkers, xM_readLight, xM_readWater, xMreadNerve, xMreadKind)) else (if xM_place < 0 ∨ 32 ≤ xM_place.toNatClampNeg then none else (if (xMtext xM_place.toNatClampNeg) = (87 : Int32) then (if xM_readWalkers = (5 : Int32) then (fX5_readGorge_b118 xM_textSize xMtext  xM_place xM_readWalkers xM_readLight xM_readWater xMreadNerve xMreadKind) else ((fX5_figure (0 : Int32) (5 : Int32) xM_textSize (xM_place + (1 : Int32)) xMtext).bind fun z136 => (if z136.1 = (-9 : Int32) then (fX5_readGorge_b157 xM_textSize xMtext k85 z136.1 (-9 : Int32) z136.2 xM_readWalkers xM_readLight xM_readWater xMreadNerve xMreadKind) else ((fX5_figure (0 : Int32) (3 : Int32) xM_textSize z136.2 xMtext).bind fun z154 => (fX5_readGorge_b157 xM_textSize xMtext k85 z136.1 z154.1 z154.2 xM_readWalkers xM_readLight xM_readWater xMreadNerve xMreadKind))))) else (fX5_readGorge_b118 xM_textSize xMtext  xM_place xM_readWalkers xM_readLight xM_readWater xMreadNerve xMreadKind)))
noncomputable def fX5_readGorge_b85 (xM_textSize : Int32) (xMtext : Nat → Int32)  : Int32 → Int32 → Int32 → Int32 → (Nat → Int32) → (Nat → Int32) → Option (Int32 × Int32 × Int32 × Int32 × Int32 × (Nat → Int32) × (Nat → Int32)) := lp (fun _ _ _ _ _ _ => none) (fX5_readGorge_b85_S xM_textSize xMtext ) fu
noncomputable def fX5_readGorge_b68 (xM_textSize : Int32) (xMtext : Nat → Int32)  (y0 : Int32) (xM_place : Int32) (xM_readWalkers : Int32) (xM_readLight : Int32) (xM_readWater : Int32) (xMreadNerve : Nat → Int32) (xMreadKind : Nat → Int32) : Option (Int32 × Int32 × Int32 × Int32 × Int32 × (Nat → Int32) × (Nat → Int32)) :=
  if y0 = (-9 : Int32) then (some (xM_place, xM_place, xM_readWalkers, xM_readLight, y0, xMreadNerve, xMreadKind)) else (fX5_readGorge_b85 xM_textSize xMtext  xM_place xM_readWalkers xM_readLight y0 xMreadNerve xMreadKind)
noncomputable def fX5_readGorge  (xM_textSize : Int32) (xM_place : Int32) (xM_readWalkers : Int32) (xM_readLight : Int32) (xM_readWater : Int32) (xMtext : Nat → Int32) (xMreadNerve : Nat → Int32) (xMreadKind : Nat → Int32) : Option (Int32 × Int32 × Int32 × Int32 × Int32 × (Nat → Int32) × (Nat → Int32)) :=
  if xM_textSize = 0 then (some ((0 : Int32), (0 : Int32), (0 : Int32), xM_readLight, xM_readWater, xMreadNerve, xMreadKind)) else (if (0 : Int32) < 0 ∨ 32 ≤ (0 : Int32).toNatClampNeg then none else (if (xMtext (0 : Int32).toNatClampNeg) = (71 : Int32) then ((fX5_figure (1 : Int32) (9 : Int32) xM_textSize (1 : Int32) xMtext).bind fun z40 => (if z40.1 = (-9 : Int32) then (fX5_readGorge_b68 xM_textSize xMtext  (-9 : Int32) z40.2 (0 : Int32) z40.1 xM_readWater xMreadNerve xMreadKind) else ((fX5_figure (0 : Int32) (9 : Int32) xM_textSize z40.2 xMtext).bind fun z65 => (fX5_readGorge_b68 xM_textSize xMtext  z65.1 z65.2 (0 : Int32) z40.1 xM_readWater xMreadNerve xMreadKind)))) else (some ((0 : Int32), (0 : Int32), (0 : Int32), xM_readLight, xM_readWater, xMreadNerve, xMreadKind))))
-- X5_fault
noncomputable def fX5_fault  (xM_thrown : Int32) (xM_textSize : Int32) (xM_place : Int32) (xM_readWalkers : Int32) (xM_readLight : Int32) (xM_readWater : Int32) (xMtext : Nat → Int32) (xMreadNerve : Nat → Int32) (xMreadKind : Nat → Int32) : Option (Int32 × Int32 × Int32 × Int32 × Int32 × Int32 × (Nat → Int32) × (Nat → Int32)) :=
  (fX5_readGorge xM_textSize xM_place xM_readWalkers xM_readLight xM_readWater xMtext xMreadNerve xMreadKind).bind fun z6 => (some (z6.1, (0 : Int32), z6.2.1, z6.2.2.1, z6.2.2.2.1, z6.2.2.2.2.1, z6.2.2.2.2.2.1, z6.2.2.2.2.2.2))
-- X2_parts
noncomputable def fX2_parts  (xT_length : Int32) : Option (Int32) :=
  some (((xT_length - (3 : Int32)) / (3 : Int32)))
-- X2_nerve
noncomputable def fX2_nerve (j1 : Int32) (xB : Nat → Int32) : Option (Int32) :=
  (fX2_figure (((3 : Int32) + (j1 * (3 : Int32))) + (1 : Int32)) xB).bind fun z8 => (some (z8))
-- X0_with
noncomputable def fX0_with (j0 : Int32) (j1 : Int32) (j2 : Int32)  : Option (Int32) :=
  some (((j0 &&& (((15 : Int32) <<< (((4 : Int32) * j1) &&& 31)) ^^^ (-1 : Int32))) ||| (j2 <<< (((4 : Int32) * j1) &&& 31))))
-- X2_kind
noncomputable def fX2_kind (j1 : Int32) (xB : Nat → Int32) : Option (Int32) :=
  (fX2_figure (((3 : Int32) + (j1 * (3 : Int32))) + (2 : Int32)) xB).bind fun z8 => (some (z8))
-- X1_read
noncomputable def fX1_read_b28_S (xT_length : Int32) (xB : Nat → Int32)  (k28 : Int32 → Int32 → Int32 → Int32 → Int32 → Int32 → Option (Int32 × Int32 × Int32 × Int32 × Int32)) (j2 : Int32) (xP_walkers : Int32) (xP_light : Int32) (xP_water : Int32) (xP_nerves : Int32) (xP_kinds : Int32) : Option (Int32 × Int32 × Int32 × Int32 × Int32) :=
  if xP_walkers ≤ j2 then (some (xP_walkers, xP_light, xP_water, xP_nerves, xP_kinds)) else ((fX2_nerve j2 xB).bind fun z44 => ((fX0_with xP_nerves j2 z44).bind fun z47 => ((fX2_kind j2 xB).bind fun z61 => ((fX0_with xP_kinds j2 z61).bind fun z64 => (k28 (j2 + (1 : Int32)) xP_walkers xP_light xP_water z47 z64)))))
noncomputable def fX1_read_b28 (xT_length : Int32) (xB : Nat → Int32)  : Int32 → Int32 → Int32 → Int32 → Int32 → Int32 → Option (Int32 × Int32 × Int32 × Int32 × Int32) := lp (fun _ _ _ _ _ _ => none) (fX1_read_b28_S xT_length xB ) fu
noncomputable def fX1_read  (xT_length : Int32) (xB : Nat → Int32) (xP_walkers : Int32) (xP_light : Int32) (xP_water : Int32) (xP_nerves : Int32) (xP_kinds : Int32) : Option (Int32 × Int32 × Int32 × Int32 × Int32) :=
  (fX2_figure (1 : Int32) xB).bind fun z3 => ((fX2_figure (2 : Int32) xB).bind fun z12 => ((fX2_parts xT_length).bind fun z20 => (fX1_read_b28 xT_length xB  (0 : Int32) z20 z3 z12 xP_nerves xP_kinds)))
-- X1_everybody
noncomputable def fX1_everybody  (xP_walkers : Int32) : Option (Int32) :=
  some ((((1 : Int32) <<< (xP_walkers &&& 31)) - (1 : Int32)))
-- X0_ascending
noncomputable def fX0_ascending_b32 (k6 : Int32 → Int32 → Int32 → Int32 → Option (Int32)) (j0 : Int32) (j1 : Int32) (j2 : Int32) (j3 : Int32) : Option (Int32) :=
  k6 j0 j1 j2 (j3 + (1 : Int32))
noncomputable def fX0_ascending_b6_S  (k6 : Int32 → Int32 → Int32 → Int32 → Option (Int32)) (j0 : Int32) (j1 : Int32) (j2 : Int32) (j3 : Int32) : Option (Int32) :=
  if (5 : Int32) ≤ j3 then (some (j1)) else (if ((j0 >>> (j3 &&& 31)) &&& (1 : Int32)) = (1 : Int32) then ((fX0_with j1 j2 (j3 + (1 : Int32))).bind fun z25 => (fX0_ascending_b32 k6 j0 z25 (j2 + (1 : Int32)) j3)) else (fX0_ascending_b32 k6 j0 j1 j2 j3))
noncomputable def fX0_ascending_b6  : Int32 → Int32 → Int32 → Int32 → Option (Int32) := lp (fun _ _ _ _ => none) (fX0_ascending_b6_S ) fu
noncomputable def fX0_ascending (j0 : Int32)  : Option (Int32) :=
  fX0_ascending_b6  j0 (0 : Int32) (0 : Int32) (0 : Int32)
-- X3_lineUp
noncomputable def fX3_lineUp (j1 : Int32) (j2 : Int32) (xW_row : Int32) (xW_quiets : Int32) (xW_place : Int32) : Option (Int32 × Int32 × Int32) :=
  some (j1, (0 : Int32), j2)
-- X3_start
noncomputable def fX3_start  (xP_walkers : Int32) (xW_row : Int32) (xW_quiets : Int32) (xW_place : Int32) : Option (Int32 × Int32 × Int32) :=
  (fX1_everybody xP_walkers).bind fun z5 => ((fX0_ascending z5).bind fun z8 => ((fX3_lineUp z8 (0 : Int32) xW_row xW_quiets xW_place).bind fun z12 => (some (z12.1, z12.2.1, z12.2.2))))
-- X4_forgetKept
noncomputable def fX4_forgetKept_b2_S  (k2 : Int32 → (Nat → Int64) → Option ((Nat → Int64))) (j1 : Int32) (xKE : Nat → Int64) : Option ((Nat → Int64)) :=
  if (2 : Int32) ≤ j1 then (some (xKE)) else (if j1 < 0 ∨ 2 ≤ j1.toNatClampNeg then none else (k2 (j1 + (1 : Int32)) (vp_updL xKE j1.toNatClampNeg (-1 : Int64))))
noncomputable def fX4_forgetKept_b2  : Int32 → (Nat → Int64) → Option ((Nat → Int64)) := lp (fun _ _ => none) (fX4_forgetKept_b2_S ) fu
noncomputable def fX4_forgetKept  (xKE : Nat → Int64) : Option ((Nat → Int64)) :=
  fX4_forgetKept_b2  (0 : Int32) xKE
-- X1_walkers
noncomputable def fX1_walkers  (xP_walkers : Int32) : Option (Int32) :=
  some (xP_walkers)
-- X4_gorge
noncomputable def fX4_gorge  (xG_actCount : Int32) (xT_length : Int32) (xB : Nat → Int32) (xP_walkers : Int32) (xP_light : Int32) (xP_water : Int32) (xP_nerves : Int32) (xP_kinds : Int32) (xW1_row : Int32) (xW1_quiets : Int32) (xW1_place : Int32) (xKE : Nat → Int64) : Option (Int32 × Int32 × Int32 × Int32 × Int32 × Int32 × Int32 × Int32 × Int32 × Int32 × (Nat → Int64)) :=
  (fX2_firstFault xT_length xB).bind fun z4 => (if z4 = (-9 : Int32) then ((fX1_read xT_length xB xP_walkers xP_light xP_water xP_nerves xP_kinds).bind fun z23 => ((fX3_start z23.1 xW1_row xW1_quiets xW1_place).bind fun z30 => ((fX4_forgetKept xKE).bind fun z39 => ((fX1_walkers z23.1).bind fun z46 => (some (z46, (0 : Int32), z23.1, z23.2.1, z23.2.2.1, z23.2.2.2.1, z23.2.2.2.2, z30.1, z30.2.1, z30.2.2, z39)))))) else (some ((-3 : Int32), xG_actCount, xP_walkers, xP_light, xP_water, xP_nerves, xP_kinds, xW1_row, xW1_quiets, xW1_place, xKE)))
-- X5_gorge
noncomputable def fX5_gorge_b64_S (xM_textSize : Int32) (xMtext : Nat → Int32)  (k64 : Int32 → Int32 → Int32 → Int32 → Int32 → Int32 → Int32 → Int32 → Int32 → Int32 → (Nat → Int32) → (Nat → Int32) → (Nat → Int32) → (Nat → Int32) → (Nat → Int32) → (Nat → Int32) → Option (Int32 × Int32 × Int32 × Int32 × Int32 × Int32 × Int32 × Int32 × Int32 × Int32 × (Nat → Int32) × (Nat → Int32) × (Nat → Int32) × (Nat → Int32) × (Nat → Int32) × (Nat → Int32))) (j1 : Int32) (xM_thrown : Int32) (xM_place : Int32) (xM_walkers : Int32) (xM_light : Int32) (xM_water : Int32) (xM_readWalkers : Int32) (xM_readLight : Int32) (xM_readWater : Int32) (xM_acts : Int32) (xMnerve : Nat → Int32) (xMkind : Nat → Int32) (xMreadNerve : Nat → Int32) (xMreadKind : Nat → Int32) (xMpage : Nat → Int32) (xMisKept : Nat → Int32) : Option (Int32 × Int32 × Int32 × Int32 × Int32 × Int32 × Int32 × Int32 × Int32 × Int32 × (Nat → Int32) × (Nat → Int32) × (Nat → Int32) × (Nat → Int32) × (Nat → Int32) × (Nat → Int32)) :=
  if xM_walkers ≤ j1 then (if (5 : Int32) < 0 ∨ 13 ≤ (5 : Int32).toNatClampNeg then none else (if (0 : Int32) < 0 ∨ 2 ≤ (0 : Int32).toNatClampNeg then none else (if (1 : Int32) < 0 ∨ 2 ≤ (1 : Int32).toNatClampNeg then none else (some (xM_walkers, xM_thrown, xM_place, xM_walkers, xM_light, xM_water, xM_readWalkers, xM_readLight, xM_readWater, (0 : Int32), xMnerve, xMkind, xMreadNerve, xMreadKind, (upd xMpage (5 : Int32).toNatClampNeg xM_walkers), (upd (upd xMisKept (0 : Int32).toNatClampNeg (vp_nar .boolean (0 : Int32))) (1 : Int32).toNatClampNeg (vp_nar .boolean (0 : Int32)))))))) else (if j1 < 0 ∨ 5 ≤ j1.toNatClampNeg then none else (if j1 < 0 ∨ 5 ≤ j1.toNatClampNeg then none else (if j1 < 0 ∨ 5 ≤ j1.toNatClampNeg then none else (if j1 < 0 ∨ 5 ≤ j1.toNatClampNeg then none else (if j1 < 0 ∨ 13 ≤ j1.toNatClampNeg then none else (k64 (j1 + (1 : Int32)) xM_thrown xM_place xM_walkers xM_light xM_water xM_readWalkers xM_readLight xM_readWater xM_acts (upd xMnerve j1.toNatClampNeg (xMreadNerve j1.toNatClampNeg)) (upd xMkind j1.toNatClampNeg (xMreadKind j1.toNatClampNeg)) xMreadNerve xMreadKind (upd xMpage j1.toNatClampNeg j1) xMisKept))))))
noncomputable def fX5_gorge_b64 (xM_textSize : Int32) (xMtext : Nat → Int32)  : Int32 → Int32 → Int32 → Int32 → Int32 → Int32 → Int32 → Int32 → Int32 → Int32 → (Nat → Int32) → (Nat → Int32) → (Nat → Int32) → (Nat → Int32) → (Nat → Int32) → (Nat → Int32) → Option (Int32 × Int32 × Int32 × Int32 × Int32 × Int32 × Int32 × Int32 × Int32 × Int32 × (Nat → Int32) × (Nat → Int32) × (Nat → Int32) × (Nat → Int32) × (Nat → Int32) × (Nat → Int32)) := lp (fun _ _ _ _ _ _ _ _ _ _ _ _ _ _ _ _ => none) (fX5_gorge_b64_S xM_textSize xMtext ) fu
noncomputable def fX5_gorge_b43_S (xM_textSize : Int32) (xMtext : Nat → Int32)  (k43 : Int32 → Int32 → Int32 → Int32 → Int32 → Int32 → Int32 → Int32 → Int32 → Int32 → (Nat → Int32) → (Nat → Int32) → (Nat → Int32) → (Nat → Int32) → (Nat → Int32) → (Nat → Int32) → Option (Int32 × Int32 × Int32 × Int32 × Int32 × Int32 × Int32 × Int32 × Int32 × Int32 × (Nat → Int32) × (Nat → Int32) × (Nat → Int32) × (Nat → Int32) × (Nat → Int32) × (Nat → Int32))) (j1 : Int32) (xM_thrown : Int32) (xM_place : Int32) (xM_walkers : Int32) (xM_light : Int32) (xM_water : Int32) (xM_readWalkers : Int32) (xM_readLight : Int32) (xM_readWater : Int32) (xM_acts : Int32) (xMnerve : Nat → Int32) (xMkind : Nat → Int32) (xMreadNerve : Nat → Int32) (xMreadKind : Nat → Int32) (xMpage : Nat → Int32) (xMisKept : Nat → Int32) : Option (Int32 × Int32 × Int32 × Int32 × Int32 × Int32 × Int32 × Int32 × Int32 × Int32 × (Nat → Int32) × (Nat → Int32) × (Nat → Int32) × (Nat → Int32) × (Nat → Int32) × (Nat → Int32)) :=
  if (13 : Int32) ≤ j1 then (fX5_gorge_b64 xM_textSize xMtext  (0 : Int32) xM_thrown xM_place xM_walkers xM_light xM_water xM_readWalkers xM_readLight xM_readWater xM_acts xMnerve xMkind xMreadNerve xMreadKind xMpage xMisKept) else (if j1 < 0 ∨ 13 ≤ j1.toNatClampNeg then none else (k43 (j1 + (1 : Int32)) xM_thrown xM_place xM_walkers xM_light xM_water xM_readWalkers xM_readLight xM_readWater xM_acts xMnerve xMkind xMreadNerve xMreadKind (upd xMpage j1.toNatClampNeg (0 : Int32)) xMisKept))
noncomputable def fX5_gorge_b43 (xM_textSize : Int32) (xMtext : Nat → Int32)  : Int32 → Int32 → Int32 → Int32 → Int32 → Int32 → Int32 → Int32 → Int32 → Int32 → (Nat → Int32) → (Nat → Int32) → (Nat → Int32) → (Nat → Int32) → (Nat → Int32) → (Nat → Int32) → Option (Int32 × Int32 × Int32 × Int32 × Int32 × Int32 × Int32 × Int32 × Int32 × Int32 × (Nat → Int32) × (Nat → Int32) × (Nat → Int32) × (Nat → Int32) × (Nat → Int32) × (Nat → Int32)) := lp (fun _ _ _ _ _ _ _ _ _ _ _ _ _ _ _ _ => none) (fX5_gorge_b43_S xM_textSize xMtext ) fu
noncomputable def fX5_gorge  (xM_thrown : Int32) (xM_textSize : Int32) (xM_place : Int32) (xM_walkers : Int32) (xM_light : Int32) (xM_water : Int32) (xM_readWalkers : Int32) (xM_readLight : Int32) (xM_readWater : Int32) (xM_acts : Int32) (xMtext : Nat → Int32) (xMnerve : Nat → Int32) (xMkind : Nat → Int32) (xMreadNerve : Nat → Int32) (xMreadKind : Nat → Int32) (xMpage : Nat → Int32) (xMisKept : Nat → Int32) : Option (Int32 × Int32 × Int32 × Int32 × Int32 × Int32 × Int32 × Int32 × Int32 × Int32 × (Nat → Int32) × (Nat → Int32) × (Nat → Int32) × (Nat → Int32) × (Nat → Int32) × (Nat → Int32)) :=
  (fX5_readGorge xM_textSize xM_place xM_readWalkers xM_readLight xM_readWater xMtext xMreadNerve xMreadKind).bind fun z6 => (if z6.1 = (-9 : Int32) then (fX5_gorge_b43 xM_textSize xMtext  (0 : Int32) (0 : Int32) z6.2.1 z6.2.2.1 z6.2.2.2.1 z6.2.2.2.2.1 z6.2.2.1 z6.2.2.2.1 z6.2.2.2.2.1 xM_acts xMnerve xMkind z6.2.2.2.2.2.1 z6.2.2.2.2.2.2 xMpage xMisKept) else (some ((-3 : Int32), (0 : Int32), z6.2.1, xM_walkers, xM_light, xM_water, z6.2.2.1, z6.2.2.2.1, z6.2.2.2.2.1, xM_acts, xMnerve, xMkind, z6.2.2.2.2.2.1, z6.2.2.2.2.2.2, xMpage, xMisKept)))
-- X1_light
noncomputable def fX1_light  (xP_light : Int32) : Option (Int32) :=
  some (xP_light)
-- X1_water
noncomputable def fX1_water  (xP_water : Int32) : Option (Int32) :=
  some (xP_water)
-- X3_place
noncomputable def fX3_place  (xW_place : Int32) : Option (Int32) :=
  some (xW_place)
-- X0_at
noncomputable def fX0_at (j0 : Int32) (j1 : Int32)  : Option (Int32) :=
  some ((((j0.toUInt32 >>> (((4 : Int32) * j1).toUInt32 &&& Int32.toUInt32 31)).toInt32) &&& (15 : Int32)))
-- X0_size
noncomputable def fX0_size_b2_S  (k2 : Int32 → Int32 → Option (Int32)) (j0 : Int32) (j1 : Int32) : Option (Int32) :=
  if (5 : Int32) ≤ j1 then (some (j1)) else ((fX0_at j0 j1).bind fun z9 => (if z9 = 0 then (some (j1)) else (k2 j0 (j1 + (1 : Int32)))))
noncomputable def fX0_size_b2  : Int32 → Int32 → Option (Int32) := lp (fun _ _ => none) (fX0_size_b2_S ) fu
noncomputable def fX0_size (j0 : Int32)  : Option (Int32) :=
  fX0_size_b2  j0 (0 : Int32)
-- X0_members
noncomputable def fX0_members_b4_S  (k4 : Int32 → Int32 → Int32 → Option (Int32)) (j0 : Int32) (j1 : Int32) (j2 : Int32) : Option (Int32) :=
  (fX0_size j0).bind fun z6 => (if z6 ≤ j2 then (some (j1)) else ((fX0_at j0 j2).bind fun z16 => (k4 j0 (j1 ||| ((1 : Int32) <<< ((z16 - (1 : Int32)) &&& 31))) (j2 + (1 : Int32)))))
noncomputable def fX0_members_b4  : Int32 → Int32 → Int32 → Option (Int32) := lp (fun _ _ _ => none) (fX0_members_b4_S ) fu
noncomputable def fX0_members (j0 : Int32)  : Option (Int32) :=
  fX0_members_b4  j0 (0 : Int32) (0 : Int32)
-- X3_members
noncomputable def fX3_members  (xW_row : Int32) : Option (Int32) :=
  (fX0_members xW_row).bind fun z4 => (some (z4))
-- X3_row
noncomputable def fX3_row  (xW_row : Int32) : Option (Int32) :=
  some (xW_row)
-- X0_figures
noncomputable def fX0_figures_b4_S  (k4 : Int32 → Int32 → Int32 → Option (Int32)) (j0 : Int32) (j1 : Int32) (j2 : Int32) : Option (Int32) :=
  (fX0_size j0).bind fun z6 => (if z6 ≤ j2 then (some (j1)) else ((fX0_at j0 j2).bind fun z18 => (k4 j0 ((j1 * (10 : Int32)) + z18) (j2 + (1 : Int32)))))
noncomputable def fX0_figures_b4  : Int32 → Int32 → Int32 → Option (Int32) := lp (fun _ _ _ => none) (fX0_figures_b4_S ) fu
noncomputable def fX0_figures (j0 : Int32)  : Option (Int32) :=
  fX0_figures_b4  j0 (0 : Int32) (0 : Int32)
-- X3_isOut
noncomputable def fX3_isOut  (xP_light : Int32) (xW_place : Int32) : Option (Int32) :=
  (fX1_light xP_light).bind fun z8 => (if xW_place < z8 then (some ((0 : Int32))) else (some ((1 : Int32))))
-- X4_about
noncomputable def fX4_about (j1 : Int32) (xG_actCount : Int32) (xG_toldCount : Int32) (xT_length : Int32) (xP_walkers : Int32) (xP_light : Int32) (xP_water : Int32) (xW1_row : Int32) (xW1_place : Int32) : Option (Int32) :=
  if j1 = (0 : Int32) then ((fX1_walkers xP_walkers).bind fun z64 => (some (z64))) else (if j1 = (1 : Int32) then ((fX1_light xP_light).bind fun z72 => (some (z72))) else (if j1 = (2 : Int32) then ((fX1_water xP_water).bind fun z80 => (some (z80))) else (if j1 = (3 : Int32) then ((fX3_place xW1_place).bind fun z88 => (some (z88))) else (if j1 = (4 : Int32) then ((fX3_members xW1_row).bind fun z96 => (some (z96))) else (if j1 = (5 : Int32) then ((fX1_everybody xP_walkers).bind fun z104 => ((fX3_members xW1_row).bind fun z111 => (some ((z104 &&& (z111 ^^^ (-1 : Int32))))))) else (if j1 = (6 : Int32) then ((fX3_row xW1_row).bind fun z122 => ((fX0_figures z122).bind fun z125 => (some (z125)))) else (if j1 = (7 : Int32) then (some (xG_actCount)) else (if j1 = (8 : Int32) then (some (xG_toldCount)) else (if j1 = (9 : Int32) then ((fX2_length xT_length).bind fun z143 => (some (z143))) else (if j1 = (10 : Int32) then ((fX3_isOut xP_light xW1_place).bind fun z151 => (if z151 = 0 then (some ((0 : Int32))) else (some ((1 : Int32))))) else (some ((-2 : Int32)))))))))))))
-- X5_rowOf
noncomputable def fX5_rowOf_b4_S (xA : Nat → Int32)  (k4 : Int32 → Int32 → Option (Int32)) (j1 : Int32) (j2 : Int32) : Option (Int32) :=
  if (5 : Int32) < 0 ∨ 13 ≤ (5 : Int32).toNatClampNeg then none else (if (xA (5 : Int32).toNatClampNeg) ≤ j2 then (some (j1)) else (if j2 < 0 ∨ 13 ≤ j2.toNatClampNeg then none else (k4 (j1 ||| ((1 : Int32) <<< ((xA j2.toNatClampNeg) &&& 31))) (j2 + (1 : Int32)))))
noncomputable def fX5_rowOf_b4 (xA : Nat → Int32)  : Int32 → Int32 → Option (Int32) := lp (fun _ _ => none) (fX5_rowOf_b4_S xA ) fu
noncomputable def fX5_rowOf  (xA : Nat → Int32) : Option (Int32) :=
  fX5_rowOf_b4 xA  (0 : Int32) (0 : Int32)
-- X5_figuresOf
noncomputable def fX5_figuresOf_b4_S (xA : Nat → Int32)  (k4 : Int32 → Int32 → Option (Int32)) (j1 : Int32) (j2 : Int32) : Option (Int32) :=
  if (5 : Int32) < 0 ∨ 13 ≤ (5 : Int32).toNatClampNeg then none else (if (xA (5 : Int32).toNatClampNeg) ≤ j2 then (some (j1)) else (if j2 < 0 ∨ 13 ≤ j2.toNatClampNeg then none else (k4 ((((10 : Int32) * j1) + (xA j2.toNatClampNeg)) + (1 : Int32)) (j2 + (1 : Int32)))))
noncomputable def fX5_figuresOf_b4 (xA : Nat → Int32)  : Int32 → Int32 → Option (Int32) := lp (fun _ _ => none) (fX5_figuresOf_b4_S xA ) fu
noncomputable def fX5_figuresOf  (xA : Nat → Int32) : Option (Int32) :=
  fX5_figuresOf_b4 xA  (0 : Int32) (0 : Int32)
-- X5_about
noncomputable def fX5_about (j1 : Int32) (xM_thrown : Int32) (xM_textSize : Int32) (xM_walkers : Int32) (xM_light : Int32) (xM_water : Int32) (xM_acts : Int32) (xM_told : Int32) (xMpage : Nat → Int32) : Option (Int32 × Int32) :=
  if j1 = (0 : Int32) then (some (xM_walkers, (0 : Int32))) else (if j1 = (1 : Int32) then (some (xM_light, (0 : Int32))) else (if j1 = (2 : Int32) then (some (xM_water, (0 : Int32))) else (if j1 = (3 : Int32) then (if (11 : Int32) < 0 ∨ 13 ≤ (11 : Int32).toNatClampNeg then none else (some ((xMpage (11 : Int32).toNatClampNeg), (0 : Int32)))) else (if j1 = (4 : Int32) then ((fX5_rowOf xMpage).bind fun z91 => (some (z91, (0 : Int32)))) else (if j1 = (5 : Int32) then (if (12 : Int32) < 0 ∨ 13 ≤ (12 : Int32).toNatClampNeg then none else (some ((xMpage (12 : Int32).toNatClampNeg), (0 : Int32)))) else (if j1 = (6 : Int32) then ((fX5_figuresOf xMpage).bind fun z107 => (some (z107, (0 : Int32)))) else (if j1 = (7 : Int32) then (some (xM_acts, (0 : Int32))) else (if j1 = (8 : Int32) then (some (xM_told, (0 : Int32))) else (if j1 = (9 : Int32) then (some (xM_textSize, (0 : Int32))) else (if j1 = (10 : Int32) then (if (11 : Int32) < 0 ∨ 13 ≤ (11 : Int32).toNatClampNeg then none else (if (xMpage (11 : Int32).toNatClampNeg) = xM_light then (some ((1 : Int32), (0 : Int32))) else (some ((0 : Int32), (0 : Int32))))) else (some ((-2 : Int32), (0 : Int32)))))))))))))
-- X1_has
noncomputable def fX1_has (j1 : Int32) (xP_walkers : Int32) : Option (Int32) :=
  (fX4_within j1 (0 : Int32) (xP_walkers - (1 : Int32))).bind fun z8 => (if z8 = 0 ∨ z8 = 1 then some (z8) else none)
-- X1_nerve
noncomputable def fX1_nerve (j1 : Int32) (xP_nerves : Int32) : Option (Int32) :=
  (fX0_at xP_nerves j1).bind fun z5 => (some (z5))
-- X1_kind
noncomputable def fX1_kind (j1 : Int32) (xP_kinds : Int32) : Option (Int32) :=
  (fX0_at xP_kinds j1).bind fun z5 => (some (z5))
-- X3_quiet
noncomputable def fX3_quiet (j1 : Int32) (xW_quiets : Int32) : Option (Int32) :=
  (fX0_at xW_quiets j1).bind fun z5 => (some (z5))
-- X3_size
noncomputable def fX3_size  (xW_row : Int32) : Option (Int32) :=
  (fX0_size xW_row).bind fun z4 => (some (z4))
-- X3_walkerAt
noncomputable def fX3_walkerAt (j1 : Int32) (xW_row : Int32) : Option (Int32) :=
  (fX0_at xW_row j1).bind fun z5 => (some ((z5 - (1 : Int32))))
-- X3_indexOf
noncomputable def fX3_indexOf_b2_S (xW_row : Int32)  (k2 : Int32 → Int32 → Option (Int32)) (j1 : Int32) (j2 : Int32) : Option (Int32) :=
  (fX3_size xW_row).bind fun z4 => (if z4 ≤ j2 then (some ((-9 : Int32))) else ((fX3_walkerAt j2 xW_row).bind fun z12 => (if z12 = j1 then (some (j2)) else (k2 j1 (j2 + (1 : Int32))))))
noncomputable def fX3_indexOf_b2 (xW_row : Int32)  : Int32 → Int32 → Option (Int32) := lp (fun _ _ => none) (fX3_indexOf_b2_S xW_row ) fu
noncomputable def fX3_indexOf (j1 : Int32) (xW_row : Int32) : Option (Int32) :=
  fX3_indexOf_b2 xW_row  j1 (0 : Int32)
-- X3_behind
noncomputable def fX3_behind_b22 (xW_row : Int32)   : Option (Int32) :=
  some ((-9 : Int32))
noncomputable def fX3_behind (j1 : Int32) (xW_row : Int32) : Option (Int32) :=
  (fX3_indexOf j1 xW_row).bind fun z2 => (if z2 = (-9 : Int32) then (fX3_behind_b22 xW_row  ) else ((fX3_size xW_row).bind fun z16 => (if (z2 + (1 : Int32)) < z16 then ((fX3_walkerAt (z2 + (1 : Int32)) xW_row).bind fun z31 => (some (z31))) else (fX3_behind_b22 xW_row  ))))
-- X4_walker
noncomputable def fX4_walker (j1 : Int32) (j2 : Int32) (xP_walkers : Int32) (xP_nerves : Int32) (xP_kinds : Int32) (xW1_row : Int32) (xW1_quiets : Int32) : Option (Int32) :=
  (fX1_has j1 xP_walkers).bind fun z5 => (if z5 = 0 then (some ((-1 : Int32))) else (if j2 = (0 : Int32) then ((fX1_nerve j1 xP_nerves).bind fun z53 => (some (z53))) else (if j2 = (1 : Int32) then ((fX1_kind j1 xP_kinds).bind fun z62 => (some (z62))) else (if j2 = (2 : Int32) then ((fX3_quiet j1 xW1_quiets).bind fun z71 => (some (z71))) else (if j2 = (3 : Int32) then ((fX3_indexOf j1 xW1_row).bind fun z80 => (some (z80))) else (if j2 = (4 : Int32) then ((fX3_behind j1 xW1_row).bind fun z89 => (some (z89))) else (some ((-2 : Int32)))))))))
-- X5_noOne
noncomputable def fX5_noOne (j1 : Int32) (xM_walkers : Int32) : Option (Int32) :=
  (fX5_in j1.toInt64 (0 : Int64) ((xM_walkers - (1 : Int32)).toInt64)).bind fun z10 => (if z10 = 0 then (some ((1 : Int32))) else (some ((0 : Int32))))
-- X5_placeOf
noncomputable def fX5_placeOf_b24 (xA : Nat → Int32) (k5 : Int32 → Int32 → Int32 → Option (Int32)) (j1 : Int32) (j3 : Int32) (y0 : Int32) : Option (Int32) :=
  k5 j1 y0 (j3 + (1 : Int32))
noncomputable def fX5_placeOf_b5_S (xA : Nat → Int32)  (k5 : Int32 → Int32 → Int32 → Option (Int32)) (j1 : Int32) (j2 : Int32) (j3 : Int32) : Option (Int32) :=
  if (5 : Int32) < 0 ∨ 13 ≤ (5 : Int32).toNatClampNeg then none else (if (xA (5 : Int32).toNatClampNeg) ≤ j3 then (some (j2)) else (if j3 < 0 ∨ 13 ≤ j3.toNatClampNeg then none else (if (xA j3.toNatClampNeg) = j1 then (fX5_placeOf_b24 xA k5 j1 j3 j3) else (fX5_placeOf_b24 xA k5 j1 j3 j2))))
noncomputable def fX5_placeOf_b5 (xA : Nat → Int32)  : Int32 → Int32 → Int32 → Option (Int32) := lp (fun _ _ _ => none) (fX5_placeOf_b5_S xA ) fu
noncomputable def fX5_placeOf (j1 : Int32) (xA : Nat → Int32) : Option (Int32) :=
  fX5_placeOf_b5 xA  j1 (-9 : Int32) (0 : Int32)
-- X5_walker
noncomputable def fX5_walker_b104 (xM_walkers : Int32) (xMnerve : Nat → Int32) (xMkind : Nat → Int32) (xMpage : Nat → Int32)  (xM_thrown : Int32) : Option (Int32 × Int32) :=
  some ((-9 : Int32), xM_thrown)
noncomputable def fX5_walker (j1 : Int32) (j2 : Int32) (xM_thrown : Int32) (xM_walkers : Int32) (xMnerve : Nat → Int32) (xMkind : Nat → Int32) (xMpage : Nat → Int32) : Option (Int32 × Int32) :=
  (fX5_noOne j1 xM_walkers).bind fun z7 => (if z7 = 0 then ((fX5_placeOf j1 xMpage).bind fun z20 => (if j2 = (0 : Int32) then (if j1 < 0 ∨ 5 ≤ j1.toNatClampNeg then none else (some ((xMnerve j1.toNatClampNeg), (0 : Int32)))) else (if j2 = (1 : Int32) then (if j1 < 0 ∨ 5 ≤ j1.toNatClampNeg then none else (some ((xMkind j1.toNatClampNeg), (0 : Int32)))) else (if j2 = (2 : Int32) then (if ((6 : Int32) + j1) < 0 ∨ 13 ≤ ((6 : Int32) + j1).toNatClampNeg then none else (some ((xMpage ((6 : Int32) + j1).toNatClampNeg), (0 : Int32)))) else (if j2 = (3 : Int32) then (some (z20, (0 : Int32))) else (if j2 = (4 : Int32) then (if z20 = (-9 : Int32) then (fX5_walker_b104 xM_walkers xMnerve xMkind xMpage  (0 : Int32)) else (if (5 : Int32) < 0 ∨ 13 ≤ (5 : Int32).toNatClampNeg then none else (if (z20 + (1 : Int32)) = (xMpage (5 : Int32).toNatClampNeg) then (fX5_walker_b104 xM_walkers xMnerve xMkind xMpage  (0 : Int32)) else (if (z20 + (1 : Int32)) < 0 ∨ 13 ≤ (z20 + (1 : Int32)).toNatClampNeg then none else (some ((xMpage (z20 + (1 : Int32)).toNatClampNeg), (0 : Int32))))))) else (some ((-2 : Int32), (0 : Int32))))))))) else (some ((-1 : Int32), (0 : Int32))))
-- X3_state
noncomputable def fX3_state  (xW_row : Int32) (xW_quiets : Int32) (xW_place : Int32) : Option (Int64) :=
  some (((((xW_place.toInt64 <<< ((20 : Int32).toInt64 &&& 63)) ||| xW_quiets.toInt64) <<< ((20 : Int32).toInt64 &&& 63)) ||| xW_row.toInt64))
-- X4_remember
noncomputable def fX4_remember_b43 (xW1_row : Int32) (xW1_quiets : Int32) (xW1_place : Int32)  (xG_actCount : Int32) (xAC : Nat → Int64) : Option (Int32 × (Nat → Int64)) :=
  if xG_actCount < 0 then (some (xG_actCount, xAC)) else ((fX3_state xW1_row xW1_quiets xW1_place).bind fun z62 => (if xG_actCount < 0 ∨ 14 ≤ xG_actCount.toNatClampNeg then none else (some ((xG_actCount + (1 : Int32)), (vp_updL xAC xG_actCount.toNatClampNeg z62)))))
noncomputable def fX4_remember  (xG_actCount : Int32) (xW1_row : Int32) (xW1_quiets : Int32) (xW1_place : Int32) (xAC : Nat → Int64) : Option (Int32 × (Nat → Int64)) :=
  if xG_actCount < (14 : Int32) then (fX4_remember_b43 xW1_row xW1_quiets xW1_place  xG_actCount xAC) else (fX4_remember_b43 xW1_row xW1_quiets xW1_place  ((14 : Int32) - (1 : Int32)) (va_cpy xAC xAC 1 0 13))
-- X3_isHeard
noncomputable def fX3_isHeard_b75 (xP_water : Int32) (xP_kinds : Int32) (xW_place : Int32)   : Option (Int32) :=
  some ((1 : Int32))
noncomputable def fX3_isHeard_b44 (xP_water : Int32) (xP_kinds : Int32) (xW_place : Int32)  (j3 : Int32) (j4 : Int32) (y0 : Int32) : Option (Int32) :=
  (fX1_water xP_water).bind fun z54 => (if xW_place = z54 then (fX3_isHeard_b75 xP_water xP_kinds xW_place  ) else (if j3 = (2 : Int32) then (fX3_isHeard_b75 xP_water xP_kinds xW_place  ) else (if j4 = 0 then (some ((0 : Int32))) else (if y0 = 0 then (fX3_isHeard_b75 xP_water xP_kinds xW_place  ) else (some ((0 : Int32)))))))
noncomputable def fX3_isHeard_b43 (xP_water : Int32) (xP_kinds : Int32) (xW_place : Int32)  (j3 : Int32) (j4 : Int32) : Option (Int32) :=
  fX3_isHeard_b44 xP_water xP_kinds xW_place  j3 j4 (0 : Int32)
noncomputable def fX3_isHeard_b23 (xP_water : Int32) (xP_kinds : Int32) (xW_place : Int32)  (j3 : Int32) (y0 : Int32) : Option (Int32) :=
  if j3 = (3 : Int32) then (if (xW_place - xW_place / (2 : Int32) * (2 : Int32)) = 0 then (fX3_isHeard_b43 xP_water xP_kinds xW_place  j3 y0) else (fX3_isHeard_b44 xP_water xP_kinds xW_place  j3 y0 (1 : Int32))) else (fX3_isHeard_b43 xP_water xP_kinds xW_place  j3 y0)
noncomputable def fX3_isHeard (j1 : Int32) (j2 : Int32) (xP_water : Int32) (xP_kinds : Int32) (xW_place : Int32) : Option (Int32) :=
  (fX1_kind j1 xP_kinds).bind fun z5 => (if ((j2 >>> (j1 &&& 31)) &&& (1 : Int32)) = (1 : Int32) then (fX3_isHeard_b23 xP_water xP_kinds xW_place  z5 (1 : Int32)) else (fX3_isHeard_b23 xP_water xP_kinds xW_place  z5 (0 : Int32)))
-- X3_setQuiet
noncomputable def fX3_setQuiet (j1 : Int32) (j2 : Int32) (xW_quiets : Int32) : Option (Int32) :=
  (fX0_with xW_quiets j1 j2).bind fun z7 => (some (z7))
-- X0_without
noncomputable def fX0_without (j0 : Int32) (j1 : Int32)  : Option (Int32) :=
  some (((j0 &&& (((1 : Int32) <<< (((4 : Int32) * j1) &&& 31)) - (1 : Int32))) ||| (((j0.toUInt32 >>> ((4 : Int32).toUInt32 &&& Int32.toUInt32 31)).toInt32) &&& ((((1 : Int32) <<< (((4 : Int32) * j1) &&& 31)) - (1 : Int32)) ^^^ (-1 : Int32)))))
-- X3_turnRound
noncomputable def fX3_turnRound_b100 (xP_nerves : Int32) (xP_kinds : Int32) (k9 : Int32 → Int32 → Int32 → Int32 → Int32 → Option (Int32 × Int32 × Int32 × Int32)) (j1 : Int32) (j2 : Int32) (xW_row : Int32) (xW_quiets : Int32) (xW_turned : Int32) : Option (Int32 × Int32 × Int32 × Int32) :=
  k9 j1 (j2 + (1 : Int32)) xW_row xW_quiets xW_turned
noncomputable def fX3_turnRound_b9_S (xP_nerves : Int32) (xP_kinds : Int32)  (k9 : Int32 → Int32 → Int32 → Int32 → Int32 → Option (Int32 × Int32 × Int32 × Int32)) (j1 : Int32) (j2 : Int32) (xW_row : Int32) (xW_quiets : Int32) (xW_turned : Int32) : Option (Int32 × Int32 × Int32 × Int32) :=
  (fX0_size xW_row).bind fun z16 => (if z16 ≤ (j2 + (1 : Int32)) then (some (j1, xW_row, xW_quiets, xW_turned)) else ((fX3_walkerAt j2 xW_row).bind fun z24 => ((fX1_kind z24 xP_kinds).bind fun z33 => (if z33 = (1 : Int32) then (fX3_turnRound_b100 xP_nerves xP_kinds k9 j1 j2 xW_row xW_quiets xW_turned) else ((fX3_quiet z24 xW_quiets).bind fun z42 => ((fX1_nerve z24 xP_nerves).bind fun z50 => (if z42 ≤ z50 then (fX3_turnRound_b100 xP_nerves xP_kinds k9 j1 j2 xW_row xW_quiets xW_turned) else ((fX3_walkerAt (j2 + (1 : Int32)) xW_row).bind fun z74 => ((fX0_without xW_row (j2 + (1 : Int32))).bind fun z88 => ((fX3_setQuiet z24 (0 : Int32) xW_quiets).bind fun z97 => (fX3_turnRound_b100 xP_nerves xP_kinds k9 (j1 ||| ((1 : Int32) <<< (z74 &&& 31))) j2 z88 z97 (xW_turned ||| ((1 : Int32) <<< (z24 &&& 31))))))))))))))
noncomputable def fX3_turnRound_b9 (xP_nerves : Int32) (xP_kinds : Int32)  : Int32 → Int32 → Int32 → Int32 → Int32 → Option (Int32 × Int32 × Int32 × Int32) := lp (fun _ _ _ _ _ => none) (fX3_turnRound_b9_S xP_nerves xP_kinds ) fu
noncomputable def fX3_turnRound  (xP_nerves : Int32) (xP_kinds : Int32) (xW_row : Int32) (xW_quiets : Int32) (xW_turned : Int32) : Option (Int32 × Int32 × Int32 × Int32) :=
  fX3_turnRound_b9 xP_nerves xP_kinds  (0 : Int32) (0 : Int32) xW_row xW_quiets (0 : Int32)
-- X3_step
noncomputable def fX3_step_b76 (xP_water : Int32) (xP_nerves : Int32) (xP_kinds : Int32) (k9 : Int32 → Int32 → Int32 → Int32 → Int32 → Int32 → Int32 → Option (Int32 × Int32 × Int32 × Int32 × Int32)) (j1 : Int32) (j2 : Int32) (j3 : Int32) (y0 : Int32) (y1 : Int32) (xW_row : Int32) (xW_quiets : Int32) (xW_place : Int32) (xW_turned : Int32) : Option (Int32 × Int32 × Int32 × Int32 × Int32) :=
  (fX3_setQuiet y1 y0 xW_quiets).bind fun z76 => (k9 j1 j2 (j3 + (1 : Int32)) xW_row z76 xW_place xW_turned)
noncomputable def fX3_step_b54 (xP_water : Int32) (xP_nerves : Int32) (xP_kinds : Int32) (k9 : Int32 → Int32 → Int32 → Int32 → Int32 → Int32 → Int32 → Option (Int32 × Int32 × Int32 × Int32 × Int32)) (j1 : Int32) (j2 : Int32) (j3 : Int32) (j4 : Int32) (y0 : Int32) (xW_row : Int32) (xW_quiets : Int32) (xW_place : Int32) (xW_turned : Int32) : Option (Int32 × Int32 × Int32 × Int32 × Int32) :=
  if y0 = 0 then ((fX3_quiet j4 xW_quiets).bind fun z71 => (fX3_step_b76 xP_water xP_nerves xP_kinds k9 j1 j2 j3 (z71 + (1 : Int32)) j4 xW_row xW_quiets xW_place xW_turned)) else (fX3_step_b76 xP_water xP_nerves xP_kinds k9 j1 j2 j3 (0 : Int32) j4 xW_row xW_quiets xW_place xW_turned)
noncomputable def fX3_step_b53 (xP_water : Int32) (xP_nerves : Int32) (xP_kinds : Int32) (k9 : Int32 → Int32 → Int32 → Int32 → Int32 → Int32 → Int32 → Option (Int32 × Int32 × Int32 × Int32 × Int32)) (j1 : Int32) (j2 : Int32) (j3 : Int32) (j4 : Int32) (xW_row : Int32) (xW_quiets : Int32) (xW_place : Int32) (xW_turned : Int32) : Option (Int32 × Int32 × Int32 × Int32 × Int32) :=
  fX3_step_b54 xP_water xP_nerves xP_kinds k9 j1 j2 j3 j4 (0 : Int32) xW_row xW_quiets xW_place xW_turned
noncomputable def fX3_step_b9_S (xP_water : Int32) (xP_nerves : Int32) (xP_kinds : Int32)  (k9 : Int32 → Int32 → Int32 → Int32 → Int32 → Int32 → Int32 → Option (Int32 × Int32 × Int32 × Int32 × Int32)) (j1 : Int32) (j2 : Int32) (j3 : Int32) (xW_row : Int32) (xW_quiets : Int32) (xW_place : Int32) (xW_turned : Int32) : Option (Int32 × Int32 × Int32 × Int32 × Int32) :=
  if j2 ≤ j3 then ((fX3_turnRound xP_nerves xP_kinds xW_row xW_quiets xW_turned).bind fun z86 => (some (z86.1, z86.2.1, z86.2.2.1, (xW_place + (1 : Int32)), z86.2.2.2))) else ((fX3_walkerAt j3 xW_row).bind fun z16 => ((fX1_kind z16 xP_kinds).bind fun z27 => (if z27 = (1 : Int32) then (fX3_step_b53 xP_water xP_nerves xP_kinds k9 j1 j2 j3 z16 xW_row xW_quiets xW_place xW_turned) else ((fX3_walkerAt (j3 + (1 : Int32)) xW_row).bind fun z39 => ((fX3_isHeard z39 j1 xP_water xP_kinds xW_place).bind fun z43 => (if z43 = 0 then (fX3_step_b53 xP_water xP_nerves xP_kinds k9 j1 j2 j3 z16 xW_row xW_quiets xW_place xW_turned) else (fX3_step_b54 xP_water xP_nerves xP_kinds k9 j1 j2 j3 z16 (1 : Int32) xW_row xW_quiets xW_place xW_turned)))))))
noncomputable def fX3_step_b9 (xP_water : Int32) (xP_nerves : Int32) (xP_kinds : Int32)  : Int32 → Int32 → Int32 → Int32 → Int32 → Int32 → Int32 → Option (Int32 × Int32 × Int32 × Int32 × Int32) := lp (fun _ _ _ _ _ _ _ => none) (fX3_step_b9_S xP_water xP_nerves xP_kinds ) fu
noncomputable def fX3_step (j1 : Int32) (xP_water : Int32) (xP_nerves : Int32) (xP_kinds : Int32) (xW_row : Int32) (xW_quiets : Int32) (xW_place : Int32) (xW_turned : Int32) : Option (Int32 × Int32 × Int32 × Int32 × Int32) :=
  (fX3_size xW_row).bind fun z1 => (fX3_step_b9 xP_water xP_nerves xP_kinds  j1 (z1 - (1 : Int32)) (0 : Int32) xW_row xW_quiets xW_place xW_turned)
-- X4_minute
noncomputable def fX4_minute (j1 : Int32) (xG_actCount : Int32) (xP_walkers : Int32) (xP_light : Int32) (xP_water : Int32) (xP_nerves : Int32) (xP_kinds : Int32) (xW1_row : Int32) (xW1_quiets : Int32) (xW1_place : Int32) (xW1_turned : Int32) (xAC : Nat → Int64) : Option (Int32 × Int32 × Int32 × Int32 × Int32 × Int32 × (Nat → Int64)) :=
  (fX1_everybody xP_walkers).bind fun z6 => ((fX4_within j1 (0 : Int32) z6).bind fun z9 => (if z9 = 0 then (some ((-2 : Int32), xG_actCount, xW1_row, xW1_quiets, xW1_place, xW1_turned, xAC)) else ((fX3_isOut xP_light xW1_place).bind fun z22 => (if z22 = 0 then ((fX4_remember xG_actCount xW1_row xW1_quiets xW1_place xAC).bind fun z32 => ((fX3_step j1 xP_water xP_nerves xP_kinds xW1_row xW1_quiets xW1_place xW1_turned).bind fun z40 => (some (z40.1, z32.1, z40.2.1, z40.2.2.1, z40.2.2.2.1, z40.2.2.2.2, z32.2)))) else (some ((-3 : Int32), xG_actCount, xW1_row, xW1_quiets, xW1_place, xW1_turned, xAC))))))
-- X5_note
noncomputable def fX5_note_b51_S (xMpage : Nat → Int32)  (k51 : Int32 → Int32 → (Nat → Int32) → Option (Int32 × (Nat → Int32))) (j1 : Int32) (xM_acts : Int32) (xMbook : Nat → Int32) : Option (Int32 × (Nat → Int32)) :=
  if (13 : Int32) ≤ j1 then (some ((xM_acts + (1 : Int32)), xMbook)) else (if j1 < 0 ∨ 13 ≤ j1.toNatClampNeg then none else (if (((13 : Int32) * xM_acts) + j1) < 0 ∨ 182 ≤ (((13 : Int32) * xM_acts) + j1).toNatClampNeg then none else (k51 (j1 + (1 : Int32)) xM_acts (upd xMbook (((13 : Int32) * xM_acts) + j1).toNatClampNeg (xMpage j1.toNatClampNeg)))))
noncomputable def fX5_note_b51 (xMpage : Nat → Int32)  : Int32 → Int32 → (Nat → Int32) → Option (Int32 × (Nat → Int32)) := lp (fun _ _ _ => none) (fX5_note_b51_S xMpage ) fu
noncomputable def fX5_note_b49 (xMpage : Nat → Int32)  (xM_acts : Int32) (xMbook : Nat → Int32) : Option (Int32 × (Nat → Int32)) :=
  fX5_note_b51 xMpage  (0 : Int32) xM_acts xMbook
noncomputable def fX5_note_b11_S (xMpage : Nat → Int32)  (k11 : Int32 → Int32 → (Nat → Int32) → Option (Int32 × (Nat → Int32))) (j1 : Int32) (xM_acts : Int32) (xMbook : Nat → Int32) : Option (Int32 × (Nat → Int32)) :=
  if (169 : Int32) ≤ j1 then (fX5_note_b49 xMpage  (xM_acts - (1 : Int32)) xMbook) else (if (j1 + (13 : Int32)) < 0 ∨ 182 ≤ (j1 + (13 : Int32)).toNatClampNeg then none else (if j1 < 0 ∨ 182 ≤ j1.toNatClampNeg then none else (k11 (j1 + (1 : Int32)) xM_acts (upd xMbook j1.toNatClampNeg (xMbook (j1 + (13 : Int32)).toNatClampNeg)))))
noncomputable def fX5_note_b11 (xMpage : Nat → Int32)  : Int32 → Int32 → (Nat → Int32) → Option (Int32 × (Nat → Int32)) := lp (fun _ _ _ => none) (fX5_note_b11_S xMpage ) fu
noncomputable def fX5_note  (xM_acts : Int32) (xMpage : Nat → Int32) (xMbook : Nat → Int32) : Option (Int32 × (Nat → Int32)) :=
  if xM_acts = (14 : Int32) then (fX5_note_b11 xMpage  (0 : Int32) xM_acts xMbook) else (fX5_note_b49 xMpage  xM_acts xMbook)
-- X5_has
noncomputable def fX5_has (j0 : Int32) (j1 : Int32)  : Option (Int32) :=
  if ((j0 >>> (j1 &&& 31)) &&& (1 : Int32)) = (1 : Int32) then (some ((1 : Int32))) else (some ((0 : Int32)))
-- X5_isHeard
noncomputable def fX5_isHeard_b60 (xM_water : Int32) (xMkind : Nat → Int32) (xA : Nat → Int32)   : Option (Int32) :=
  some ((1 : Int32))
noncomputable def fX5_isHeard_b32 (xM_water : Int32) (xMkind : Nat → Int32) (xA : Nat → Int32)  (j2 : Int32) (y0 : Int32) : Option (Int32) :=
  if y0 = 0 then (if j2 < 0 ∨ 5 ≤ j2.toNatClampNeg then none else (if (xMkind j2.toNatClampNeg) = (2 : Int32) then (fX5_isHeard_b60 xM_water xMkind xA  ) else (if (11 : Int32) < 0 ∨ 13 ≤ (11 : Int32).toNatClampNeg then none else (if (xA (11 : Int32).toNatClampNeg) = xM_water then (fX5_isHeard_b60 xM_water xMkind xA  ) else (some ((0 : Int32))))))) else (fX5_isHeard_b60 xM_water xMkind xA  )
noncomputable def fX5_isHeard_b31 (xM_water : Int32) (xMkind : Nat → Int32) (xA : Nat → Int32)  (j2 : Int32) : Option (Int32) :=
  fX5_isHeard_b32 xM_water xMkind xA  j2 (0 : Int32)
noncomputable def fX5_isHeard_b27 (xM_water : Int32) (xMkind : Nat → Int32) (xA : Nat → Int32)  (j2 : Int32) : Option (Int32) :=
  fX5_isHeard_b32 xM_water xMkind xA  j2 (1 : Int32)
noncomputable def fX5_isHeard (j2 : Int32) (j3 : Int32) (xM_water : Int32) (xMkind : Nat → Int32) (xA : Nat → Int32) : Option (Int32) :=
  (fX5_has j3 j2).bind fun z2 => (if z2 = 0 then (fX5_isHeard_b31 xM_water xMkind xA  j2) else (if j2 < 0 ∨ 5 ≤ j2.toNatClampNeg then none else (if (xMkind j2.toNatClampNeg) = (3 : Int32) then (if (11 : Int32) < 0 ∨ 13 ≤ (11 : Int32).toNatClampNeg then none else (if ((xA (11 : Int32).toNatClampNeg) - (xA (11 : Int32).toNatClampNeg) / (2 : Int32) * (2 : Int32)) = 0 then (fX5_isHeard_b27 xM_water xMkind xA  j2) else (fX5_isHeard_b31 xM_water xMkind xA  j2))) else (fX5_isHeard_b27 xM_water xMkind xA  j2))))
-- X5_goMinute
noncomputable def fX5_goMinute_b200 (xM_water : Int32) (xMnerve : Nat → Int32) (xMkind : Nat → Int32) (k87 : Int32 → Int32 → Int32 → (Nat → Int32) → Option (Int32 × Int32 × (Nat → Int32))) (j3 : Int32) (j4 : Int32) (xM_turned : Int32) (xA : Nat → Int32) : Option (Int32 × Int32 × (Nat → Int32)) :=
  k87 j3 (j4 + (1 : Int32)) xM_turned xA
noncomputable def fX5_goMinute_b176_S (xM_water : Int32) (xMnerve : Nat → Int32) (xMkind : Nat → Int32) (k87 : Int32 → Int32 → Int32 → (Nat → Int32) → Option (Int32 × Int32 × (Nat → Int32))) (k176 : Int32 → Int32 → Int32 → Int32 → (Nat → Int32) → Option (Int32 × Int32 × (Nat → Int32))) (j3 : Int32) (j4 : Int32) (j6 : Int32) (xM_turned : Int32) (xA : Nat → Int32) : Option (Int32 × Int32 × (Nat → Int32)) :=
  if (5 : Int32) < 0 ∨ 13 ≤ (5 : Int32).toNatClampNeg then none else (if (xA (5 : Int32).toNatClampNeg) ≤ j6 then (fX5_goMinute_b200 xM_water xMnerve xMkind k87 j3 j4 xM_turned xA) else (if (j6 + (1 : Int32)) < 0 ∨ 13 ≤ (j6 + (1 : Int32)).toNatClampNeg then none else (if j6 < 0 ∨ 13 ≤ j6.toNatClampNeg then none else (k176 j3 j4 (j6 + (1 : Int32)) xM_turned (upd xA j6.toNatClampNeg (xA (j6 + (1 : Int32)).toNatClampNeg))))))
noncomputable def fX5_goMinute_b176 (xM_water : Int32) (xMnerve : Nat → Int32) (xMkind : Nat → Int32) (k87 : Int32 → Int32 → Int32 → (Nat → Int32) → Option (Int32 × Int32 × (Nat → Int32))) : Int32 → Int32 → Int32 → Int32 → (Nat → Int32) → Option (Int32 × Int32 × (Nat → Int32)) := lp (fun _ _ _ _ _ => none) (fX5_goMinute_b176_S xM_water xMnerve xMkind k87) fu
noncomputable def fX5_goMinute_b87_S (xM_water : Int32) (xMnerve : Nat → Int32) (xMkind : Nat → Int32)  (k87 : Int32 → Int32 → Int32 → (Nat → Int32) → Option (Int32 × Int32 × (Nat → Int32))) (j3 : Int32) (j4 : Int32) (xM_turned : Int32) (xA : Nat → Int32) : Option (Int32 × Int32 × (Nat → Int32)) :=
  if (5 : Int32) < 0 ∨ 13 ≤ (5 : Int32).toNatClampNeg then none else (if (xA (5 : Int32).toNatClampNeg) ≤ (j4 + (1 : Int32)) then (if (12 : Int32) < 0 ∨ 13 ≤ (12 : Int32).toNatClampNeg then none else (if (12 : Int32) < 0 ∨ 13 ≤ (12 : Int32).toNatClampNeg then none else (if (11 : Int32) < 0 ∨ 13 ≤ (11 : Int32).toNatClampNeg then none else (if (11 : Int32) < 0 ∨ 13 ≤ (11 : Int32).toNatClampNeg then none else (some (j3, xM_turned, (upd (upd xA (12 : Int32).toNatClampNeg ((xA (12 : Int32).toNatClampNeg) ||| j3)) (11 : Int32).toNatClampNeg (((upd xA (12 : Int32).toNatClampNeg ((xA (12 : Int32).toNatClampNeg) ||| j3)) (11 : Int32).toNatClampNeg) + (1 : Int32))))))))) else (if j4 < 0 ∨ 13 ≤ j4.toNatClampNeg then none else (if (xA j4.toNatClampNeg) < 0 ∨ 5 ≤ (xA j4.toNatClampNeg).toNatClampNeg then none else (if (xMkind (xA j4.toNatClampNeg).toNatClampNeg) = (1 : Int32) then (fX5_goMinute_b200 xM_water xMnerve xMkind k87 j3 j4 xM_turned xA) else (if ((6 : Int32) + (xA j4.toNatClampNeg)) < 0 ∨ 13 ≤ ((6 : Int32) + (xA j4.toNatClampNeg)).toNatClampNeg then none else (if (xA j4.toNatClampNeg) < 0 ∨ 5 ≤ (xA j4.toNatClampNeg).toNatClampNeg then none else (if (xA ((6 : Int32) + (xA j4.toNatClampNeg)).toNatClampNeg) ≤ (xMnerve (xA j4.toNatClampNeg).toNatClampNeg) then (fX5_goMinute_b200 xM_water xMnerve xMkind k87 j3 j4 xM_turned xA) else (if ((6 : Int32) + (xA j4.toNatClampNeg)) < 0 ∨ 13 ≤ ((6 : Int32) + (xA j4.toNatClampNeg)).toNatClampNeg then none else (if (j4 + (1 : Int32)) < 0 ∨ 13 ≤ (j4 + (1 : Int32)).toNatClampNeg then none else (if (5 : Int32) < 0 ∨ 13 ≤ (5 : Int32).toNatClampNeg then none else (if (5 : Int32) < 0 ∨ 13 ≤ (5 : Int32).toNatClampNeg then none else (fX5_goMinute_b176 xM_water xMnerve xMkind k87 (j3 ||| ((1 : Int32) <<< (((upd xA ((6 : Int32) + (xA j4.toNatClampNeg)).toNatClampNeg (0 : Int32)) (j4 + (1 : Int32)).toNatClampNeg) &&& 31))) j4 (j4 + (1 : Int32)) (xM_turned ||| ((1 : Int32) <<< ((xA j4.toNatClampNeg) &&& 31))) (upd (upd xA ((6 : Int32) + (xA j4.toNatClampNeg)).toNatClampNeg (0 : Int32)) (5 : Int32).toNatClampNeg (((upd xA ((6 : Int32) + (xA j4.toNatClampNeg)).toNatClampNeg (0 : Int32)) (5 : Int32).toNatClampNeg) - (1 : Int32)))))))))))))))
noncomputable def fX5_goMinute_b87 (xM_water : Int32) (xMnerve : Nat → Int32) (xMkind : Nat → Int32)  : Int32 → Int32 → Int32 → (Nat → Int32) → Option (Int32 × Int32 × (Nat → Int32)) := lp (fun _ _ _ _ => none) (fX5_goMinute_b87_S xM_water xMnerve xMkind ) fu
noncomputable def fX5_goMinute_b70 (xM_water : Int32) (xMnerve : Nat → Int32) (xMkind : Nat → Int32) (k2 : Int32 → Int32 → Int32 → (Nat → Int32) → Option (Int32 × Int32 × (Nat → Int32))) (j2 : Int32) (j3 : Int32) (y0 : Int32) (y1 : Int32) (xM_turned : Int32) (xA : Nat → Int32) : Option (Int32 × Int32 × (Nat → Int32)) :=
  if y1 < 0 ∨ 13 ≤ y1.toNatClampNeg then none else (k2 j2 (j3 + (1 : Int32)) xM_turned (upd xA y1.toNatClampNeg y0))
noncomputable def fX5_goMinute_b42 (xM_water : Int32) (xMnerve : Nat → Int32) (xMkind : Nat → Int32) (k2 : Int32 → Int32 → Int32 → (Nat → Int32) → Option (Int32 × Int32 × (Nat → Int32))) (j2 : Int32) (j3 : Int32) (y0 : Int32) (xM_turned : Int32) (xA : Nat → Int32) : Option (Int32 × Int32 × (Nat → Int32)) :=
  if j3 < 0 ∨ 13 ≤ j3.toNatClampNeg then none else (if y0 = 0 then (if j3 < 0 ∨ 13 ≤ j3.toNatClampNeg then none else (if ((6 : Int32) + (xA j3.toNatClampNeg)) < 0 ∨ 13 ≤ ((6 : Int32) + (xA j3.toNatClampNeg)).toNatClampNeg then none else (fX5_goMinute_b70 xM_water xMnerve xMkind k2 j2 j3 ((xA ((6 : Int32) + (xA j3.toNatClampNeg)).toNatClampNeg) + (1 : Int32)) ((6 : Int32) + (xA j3.toNatClampNeg)) xM_turned xA))) else (fX5_goMinute_b70 xM_water xMnerve xMkind k2 j2 j3 (0 : Int32) ((6 : Int32) + (xA j3.toNatClampNeg)) xM_turned xA))
noncomputable def fX5_goMinute_b41 (xM_water : Int32) (xMnerve : Nat → Int32) (xMkind : Nat → Int32) (k2 : Int32 → Int32 → Int32 → (Nat → Int32) → Option (Int32 × Int32 × (Nat → Int32))) (j2 : Int32) (j3 : Int32) (xM_turned : Int32) (xA : Nat → Int32) : Option (Int32 × Int32 × (Nat → Int32)) :=
  fX5_goMinute_b42 xM_water xMnerve xMkind k2 j2 j3 (0 : Int32) xM_turned xA
noncomputable def fX5_goMinute_b2_S (xM_water : Int32) (xMnerve : Nat → Int32) (xMkind : Nat → Int32)  (k2 : Int32 → Int32 → Int32 → (Nat → Int32) → Option (Int32 × Int32 × (Nat → Int32))) (j2 : Int32) (j3 : Int32) (xM_turned : Int32) (xA : Nat → Int32) : Option (Int32 × Int32 × (Nat → Int32)) :=
  if (5 : Int32) < 0 ∨ 13 ≤ (5 : Int32).toNatClampNeg then none else (if (xA (5 : Int32).toNatClampNeg) ≤ (j3 + (1 : Int32)) then (fX5_goMinute_b87 xM_water xMnerve xMkind  (0 : Int32) (0 : Int32) (0 : Int32) xA) else (if j3 < 0 ∨ 13 ≤ j3.toNatClampNeg then none else (if (xA j3.toNatClampNeg) < 0 ∨ 5 ≤ (xA j3.toNatClampNeg).toNatClampNeg then none else (if (xMkind (xA j3.toNatClampNeg).toNatClampNeg) = (1 : Int32) then (fX5_goMinute_b41 xM_water xMnerve xMkind k2 j2 j3 xM_turned xA) else (if (j3 + (1 : Int32)) < 0 ∨ 13 ≤ (j3 + (1 : Int32)).toNatClampNeg then none else ((fX5_isHeard (xA (j3 + (1 : Int32)).toNatClampNeg) j2 xM_water xMkind xA).bind fun z31 => (if z31 = 0 then (fX5_goMinute_b41 xM_water xMnerve xMkind k2 j2 j3 xM_turned xA) else (fX5_goMinute_b42 xM_water xMnerve xMkind k2 j2 j3 (1 : Int32) xM_turned xA))))))))
noncomputable def fX5_goMinute_b2 (xM_water : Int32) (xMnerve : Nat → Int32) (xMkind : Nat → Int32)  : Int32 → Int32 → Int32 → (Nat → Int32) → Option (Int32 × Int32 × (Nat → Int32)) := lp (fun _ _ _ _ => none) (fX5_goMinute_b2_S xM_water xMnerve xMkind ) fu
noncomputable def fX5_goMinute (j2 : Int32) (xM_water : Int32) (xM_turned : Int32) (xMnerve : Nat → Int32) (xMkind : Nat → Int32) (xA : Nat → Int32) : Option (Int32 × Int32 × (Nat → Int32)) :=
  fX5_goMinute_b2 xM_water xMnerve xMkind  j2 (0 : Int32) xM_turned xA
-- X5_minute
noncomputable def fX5_minute (j1 : Int32) (xM_thrown : Int32) (xM_walkers : Int32) (xM_light : Int32) (xM_water : Int32) (xM_acts : Int32) (xM_turned : Int32) (xMnerve : Nat → Int32) (xMkind : Nat → Int32) (xMpage : Nat → Int32) (xMbook : Nat → Int32) : Option (Int32 × Int32 × Int32 × Int32 × (Nat → Int32) × (Nat → Int32)) :=
  (fX5_in j1.toInt64 (0 : Int64) ((((1 : Int32) <<< (xM_walkers &&& 31)) - (1 : Int32)).toInt64)).bind fun z17 => (if z17 = 0 then (some ((-2 : Int32), (0 : Int32), xM_acts, xM_turned, xMpage, xMbook)) else (if (11 : Int32) < 0 ∨ 13 ≤ (11 : Int32).toNatClampNeg then none else (if (xMpage (11 : Int32).toNatClampNeg) = xM_light then (some ((-3 : Int32), (0 : Int32), xM_acts, xM_turned, xMpage, xMbook)) else ((fX5_note xM_acts xMpage xMbook).bind fun z44 => ((fX5_goMinute j1 xM_water xM_turned xMnerve xMkind xMpage).bind fun z53 => (some (z53.1, (0 : Int32), z44.1, z53.2.1, z53.2.2, z44.2)))))))
-- X0_swapped
noncomputable def fX0_swapped (j0 : Int32) (j1 : Int32) (j2 : Int32)  : Option (Int32) :=
  (fX0_at j0 j2).bind fun z4 => ((fX0_with j0 j1 z4).bind fun z7 => ((fX0_at j0 j1).bind fun z13 => ((fX0_with z7 j2 z13).bind fun z16 => (some (z16)))))
-- X3_changePlaces
noncomputable def fX3_changePlaces (j1 : Int32) (xW_row : Int32) (xW_quiets : Int32) : Option (Int32 × Int32) :=
  (fX0_swapped xW_row j1 (j1 + (1 : Int32))).bind fun z9 => ((fX3_walkerAt j1 z9).bind fun z18 => ((fX3_setQuiet z18 (0 : Int32) xW_quiets).bind fun z22 => ((fX3_walkerAt (j1 + (1 : Int32)) z9).bind fun z30 => ((fX3_setQuiet z30 (0 : Int32) z22).bind fun z34 => (some (z9, z34))))))
-- X4_change
noncomputable def fX4_change (j1 : Int32) (xG_actCount : Int32) (xP_light : Int32) (xW1_row : Int32) (xW1_quiets : Int32) (xW1_place : Int32) (xAC : Nat → Int64) : Option (Int32 × Int32 × Int32 × Int32 × (Nat → Int64)) :=
  (fX4_within j1 (0 : Int32) (3 : Int32)).bind fun z3 => (if z3 = 0 then (some ((-2 : Int32), xG_actCount, xW1_row, xW1_quiets, xAC)) else ((fX3_isOut xP_light xW1_place).bind fun z16 => (if z16 = 0 then ((fX3_size xW1_row).bind fun z29 => (if (j1 + (1 : Int32)) < z29 then ((fX4_remember xG_actCount xW1_row xW1_quiets xW1_place xAC).bind fun z39 => ((fX3_changePlaces j1 xW1_row xW1_quiets).bind fun z47 => ((fX3_row z47.1).bind fun z54 => ((fX0_figures z54).bind fun z57 => (some (z57, z39.1, z47.1, z47.2, z39.2)))))) else (some ((-3 : Int32), xG_actCount, xW1_row, xW1_quiets, xAC)))) else (some ((-3 : Int32), xG_actCount, xW1_row, xW1_quiets, xAC)))))
-- X5_change
noncomputable def fX5_change (j1 : Int32) (xM_thrown : Int32) (xM_light : Int32) (xM_acts : Int32) (xMpage : Nat → Int32) (xMbook : Nat → Int32) : Option (Int32 × Int32 × Int32 × (Nat → Int32) × (Nat → Int32)) :=
  (fX5_in j1.toInt64 (0 : Int64) (3 : Int64)).bind fun z11 => (if z11 = 0 then (some ((-2 : Int32), (0 : Int32), xM_acts, xMpage, xMbook)) else (if (5 : Int32) < 0 ∨ 13 ≤ (5 : Int32).toNatClampNeg then none else (if (xMpage (5 : Int32).toNatClampNeg) ≤ (j1 + (1 : Int32)) then (some ((-3 : Int32), (0 : Int32), xM_acts, xMpage, xMbook)) else (if (11 : Int32) < 0 ∨ 13 ≤ (11 : Int32).toNatClampNeg then none else (if (xMpage (11 : Int32).toNatClampNeg) = xM_light then (some ((-3 : Int32), (0 : Int32), xM_acts, xMpage, xMbook)) else ((fX5_note xM_acts xMpage xMbook).bind fun z50 => (if j1 < 0 ∨ 13 ≤ j1.toNatClampNeg then none else (if (j1 + (1 : Int32)) < 0 ∨ 13 ≤ (j1 + (1 : Int32)).toNatClampNeg then none else (if j1 < 0 ∨ 13 ≤ j1.toNatClampNeg then none else (if (j1 + (1 : Int32)) < 0 ∨ 13 ≤ (j1 + (1 : Int32)).toNatClampNeg then none else (if j1 < 0 ∨ 13 ≤ j1.toNatClampNeg then none else (if ((6 : Int32) + ((upd (upd xMpage j1.toNatClampNeg (xMpage (j1 + (1 : Int32)).toNatClampNeg)) (j1 + (1 : Int32)).toNatClampNeg (xMpage j1.toNatClampNeg)) j1.toNatClampNeg)) < 0 ∨ 13 ≤ ((6 : Int32) + ((upd (upd xMpage j1.toNatClampNeg (xMpage (j1 + (1 : Int32)).toNatClampNeg)) (j1 + (1 : Int32)).toNatClampNeg (xMpage j1.toNatClampNeg)) j1.toNatClampNeg)).toNatClampNeg then none else (if ((6 : Int32) + (xMpage j1.toNatClampNeg)) < 0 ∨ 13 ≤ ((6 : Int32) + (xMpage j1.toNatClampNeg)).toNatClampNeg then none else ((fX5_figuresOf (upd (upd (upd (upd xMpage j1.toNatClampNeg (xMpage (j1 + (1 : Int32)).toNatClampNeg)) (j1 + (1 : Int32)).toNatClampNeg (xMpage j1.toNatClampNeg)) ((6 : Int32) + ((upd (upd xMpage j1.toNatClampNeg (xMpage (j1 + (1 : Int32)).toNatClampNeg)) (j1 + (1 : Int32)).toNatClampNeg (xMpage j1.toNatClampNeg)) j1.toNatClampNeg)).toNatClampNeg (0 : Int32)) ((6 : Int32) + (xMpage j1.toNatClampNeg)).toNatClampNeg (0 : Int32))).bind fun z112 => (some (z112, (0 : Int32), z50.1, (upd (upd (upd (upd xMpage j1.toNatClampNeg (xMpage (j1 + (1 : Int32)).toNatClampNeg)) (j1 + (1 : Int32)).toNatClampNeg (xMpage j1.toNatClampNeg)) ((6 : Int32) + ((upd (upd xMpage j1.toNatClampNeg (xMpage (j1 + (1 : Int32)).toNatClampNeg)) (j1 + (1 : Int32)).toNatClampNeg (xMpage j1.toNatClampNeg)) j1.toNatClampNeg)).toNatClampNeg (0 : Int32)) ((6 : Int32) + (xMpage j1.toNatClampNeg)).toNatClampNeg (0 : Int32)), z50.2))))))))))))))))
-- X3_calm
noncomputable def fX3_calm_b37 (xW_row : Int32) (k4 : Int32 → Int32 → Int32 → Option (Int32 × Int32)) (j1 : Int32) (j2 : Int32) (xW_quiets : Int32) : Option (Int32 × Int32) :=
  k4 j1 (j2 + (1 : Int32)) xW_quiets
noncomputable def fX3_calm_b4_S (xW_row : Int32)  (k4 : Int32 → Int32 → Int32 → Option (Int32 × Int32)) (j1 : Int32) (j2 : Int32) (xW_quiets : Int32) : Option (Int32 × Int32) :=
  (fX3_size xW_row).bind fun z6 => (if z6 ≤ j2 then (some (j1, xW_quiets)) else ((fX3_walkerAt j2 xW_row).bind fun z15 => ((fX3_quiet z15 xW_quiets).bind fun z18 => (if z18 ≤ 0 then (fX3_calm_b37 xW_row k4 j1 j2 xW_quiets) else ((fX3_walkerAt j2 xW_row).bind fun z30 => ((fX3_setQuiet z30 (0 : Int32) xW_quiets).bind fun z34 => (fX3_calm_b37 xW_row k4 (j1 + (1 : Int32)) j2 z34)))))))
noncomputable def fX3_calm_b4 (xW_row : Int32)  : Int32 → Int32 → Int32 → Option (Int32 × Int32) := lp (fun _ _ _ => none) (fX3_calm_b4_S xW_row ) fu
noncomputable def fX3_calm  (xW_row : Int32) (xW_quiets : Int32) : Option (Int32 × Int32) :=
  fX3_calm_b4 xW_row  (0 : Int32) (0 : Int32) xW_quiets
-- X4_rest
noncomputable def fX4_rest  (xG_actCount : Int32) (xP_light : Int32) (xW1_row : Int32) (xW1_quiets : Int32) (xW1_place : Int32) (xAC : Nat → Int64) : Option (Int32 × Int32 × Int32 × (Nat → Int64)) :=
  (fX3_isOut xP_light xW1_place).bind fun z4 => (if z4 = 0 then ((fX4_remember xG_actCount xW1_row xW1_quiets xW1_place xAC).bind fun z14 => ((fX3_calm xW1_row xW1_quiets).bind fun z21 => (some (z21.1, z14.1, z21.2, z14.2)))) else (some ((-3 : Int32), xG_actCount, xW1_quiets, xAC)))
-- X5_rest
noncomputable def fX5_rest_b63 (xM_light : Int32) (k30 : Int32 → Int32 → Int32 → Int32 → (Nat → Int32) → (Nat → Int32) → Option (Int32 × Int32 × Int32 × (Nat → Int32) × (Nat → Int32))) (j2 : Int32) (y0 : Int32) (y1 : Int32) (xM_thrown : Int32) (xM_acts : Int32) (xMpage : Nat → Int32) (xMbook : Nat → Int32) : Option (Int32 × Int32 × Int32 × (Nat → Int32) × (Nat → Int32)) :=
  if j2 < 0 ∨ 13 ≤ j2.toNatClampNeg then none else (if ((6 : Int32) + (xMpage j2.toNatClampNeg)) < 0 ∨ 13 ≤ ((6 : Int32) + (xMpage j2.toNatClampNeg)).toNatClampNeg then none else (k30 (y1 + y0) (j2 + (1 : Int32)) xM_thrown xM_acts (upd xMpage ((6 : Int32) + (xMpage j2.toNatClampNeg)).toNatClampNeg (0 : Int32)) xMbook))
noncomputable def fX5_rest_b30_S (xM_light : Int32)  (k30 : Int32 → Int32 → Int32 → Int32 → (Nat → Int32) → (Nat → Int32) → Option (Int32 × Int32 × Int32 × (Nat → Int32) × (Nat → Int32))) (j1 : Int32) (j2 : Int32) (xM_thrown : Int32) (xM_acts : Int32) (xMpage : Nat → Int32) (xMbook : Nat → Int32) : Option (Int32 × Int32 × Int32 × (Nat → Int32) × (Nat → Int32)) :=
  if (5 : Int32) < 0 ∨ 13 ≤ (5 : Int32).toNatClampNeg then none else (if (xMpage (5 : Int32).toNatClampNeg) ≤ j2 then (some (j1, xM_thrown, xM_acts, xMpage, xMbook)) else (if j2 < 0 ∨ 13 ≤ j2.toNatClampNeg then none else (if ((6 : Int32) + (xMpage j2.toNatClampNeg)) < 0 ∨ 13 ≤ ((6 : Int32) + (xMpage j2.toNatClampNeg)).toNatClampNeg then none else (if (xMpage ((6 : Int32) + (xMpage j2.toNatClampNeg)).toNatClampNeg) ≤ 0 then (fX5_rest_b63 xM_light k30 j2 (0 : Int32) j1 xM_thrown xM_acts xMpage xMbook) else (fX5_rest_b63 xM_light k30 j2 (1 : Int32) j1 xM_thrown xM_acts xMpage xMbook)))))
noncomputable def fX5_rest_b30 (xM_light : Int32)  : Int32 → Int32 → Int32 → Int32 → (Nat → Int32) → (Nat → Int32) → Option (Int32 × Int32 × Int32 × (Nat → Int32) × (Nat → Int32)) := lp (fun _ _ _ _ _ _ => none) (fX5_rest_b30_S xM_light ) fu
noncomputable def fX5_rest  (xM_thrown : Int32) (xM_light : Int32) (xM_acts : Int32) (xMpage : Nat → Int32) (xMbook : Nat → Int32) : Option (Int32 × Int32 × Int32 × (Nat → Int32) × (Nat → Int32)) :=
  if (11 : Int32) < 0 ∨ 13 ≤ (11 : Int32).toNatClampNeg then none else (if (xMpage (11 : Int32).toNatClampNeg) = xM_light then (some ((-3 : Int32), (0 : Int32), xM_acts, xMpage, xMbook)) else ((fX5_note xM_acts xMpage xMbook).bind fun z23 => (fX5_rest_b30 xM_light  (0 : Int32) (0 : Int32) (0 : Int32) z23.1 xMpage z23.2)))
-- X3_become
noncomputable def fX3_become (j1 : Int64) (xW_row : Int32) (xW_quiets : Int32) (xW_place : Int32) : Option (Int32 × Int32 × Int32) :=
  some ((j1.toInt32 &&& (1048575 : Int32)), (((j1.toUInt64 >>> ((20 : Int32).toInt64.toUInt64 &&& Int64.toUInt64 63)).toInt64).toInt32 &&& (1048575 : Int32)), ((j1.toUInt64 >>> ((40 : Int32).toInt64.toUInt64 &&& Int64.toUInt64 63)).toInt64).toInt32)
-- X4_undo
noncomputable def fX4_undo  (xG_actCount : Int32) (xW1_row : Int32) (xW1_quiets : Int32) (xW1_place : Int32) (xAC : Nat → Int64) : Option (Int32 × Int32 × Int32 × Int32 × Int32) :=
  (fX4_within xG_actCount (1 : Int32) (14 : Int32)).bind fun z10 => (if z10 = 0 then (some ((-3 : Int32), xG_actCount, xW1_row, xW1_quiets, xW1_place)) else (if (xG_actCount - (1 : Int32)) < 0 ∨ 14 ≤ (xG_actCount - (1 : Int32)).toNatClampNeg then none else ((fX3_become (xAC (xG_actCount - (1 : Int32)).toNatClampNeg) xW1_row xW1_quiets xW1_place).bind fun z42 => (some ((xG_actCount - (1 : Int32)), (xG_actCount - (1 : Int32)), z42.1, z42.2.1, z42.2.2)))))
-- X5_undo
noncomputable def fX5_undo_b27_S (xMbook : Nat → Int32)  (k27 : Int32 → Int32 → Int32 → (Nat → Int32) → Option (Int32 × Int32 × Int32 × (Nat → Int32))) (j1 : Int32) (xM_thrown : Int32) (xM_acts : Int32) (xMpage : Nat → Int32) : Option (Int32 × Int32 × Int32 × (Nat → Int32)) :=
  if (13 : Int32) ≤ j1 then (some (xM_acts, xM_thrown, xM_acts, xMpage)) else (if (((13 : Int32) * xM_acts) + j1) < 0 ∨ 182 ≤ (((13 : Int32) * xM_acts) + j1).toNatClampNeg then none else (if j1 < 0 ∨ 13 ≤ j1.toNatClampNeg then none else (k27 (j1 + (1 : Int32)) xM_thrown xM_acts (upd xMpage j1.toNatClampNeg (xMbook (((13 : Int32) * xM_acts) + j1).toNatClampNeg)))))
noncomputable def fX5_undo_b27 (xMbook : Nat → Int32)  : Int32 → Int32 → Int32 → (Nat → Int32) → Option (Int32 × Int32 × Int32 × (Nat → Int32)) := lp (fun _ _ _ _ => none) (fX5_undo_b27_S xMbook ) fu
noncomputable def fX5_undo  (xM_thrown : Int32) (xM_acts : Int32) (xMpage : Nat → Int32) (xMbook : Nat → Int32) : Option (Int32 × Int32 × Int32 × (Nat → Int32)) :=
  if xM_acts = 0 then (some ((-3 : Int32), (0 : Int32), xM_acts, xMpage)) else (fX5_undo_b27 xMbook  (0 : Int32) (0 : Int32) (xM_acts - (1 : Int32)) xMpage)
-- X4_isSong
noncomputable def fX4_isSong_b22_S  (k22 : Int32 → Int64 → Int32 → Option (Int32)) (j0 : Int32) (j3 : Int64) (j5 : Int32) : Option (Int32) :=
  if j0 ≤ j5 then (if (lg_cmp j3 (0 : Int64)) = 0 then (some ((1 : Int32))) else (some ((0 : Int32)))) else (if (lg_cmp (j3 - j3 / (100 : Int64) * (100 : Int64)) (31 : Int64)) ≤ 0 then (k22 j0 (j3 / (100 : Int64)) (j5 + (1 : Int32))) else (some ((0 : Int32))))
noncomputable def fX4_isSong_b22  : Int32 → Int64 → Int32 → Option (Int32) := lp (fun _ _ _ => none) (fX4_isSong_b22_S ) fu
noncomputable def fX4_isSong (j0 : Int32) (j1 : Int64)  : Option (Int32) :=
  (fX4_within j0 (1 : Int32) (5 : Int32)).bind fun z3 => (if z3 = 0 then (some ((0 : Int32))) else (if 0 ≤ (lg_cmp j1 (0 : Int64)) then (fX4_isSong_b22  j0 j1 (0 : Int32)) else (some ((0 : Int32)))))
-- X3_treadsOf
noncomputable def fX3_treadsOf_b5_S  (k5 : Int32 → Int64 → Int32 → Option (Int32)) (j2 : Int32) (j3 : Int64) (j5 : Int32) : Option (Int32) :=
  if j2 ≤ j5 then (some ((j3 - j3 / (100 : Int64) * (100 : Int64)).toInt32)) else (k5 j2 (j3 / (100 : Int64)) (j5 + (1 : Int32)))
noncomputable def fX3_treadsOf_b5  : Int32 → Int64 → Int32 → Option (Int32) := lp (fun _ _ _ => none) (fX3_treadsOf_b5_S ) fu
noncomputable def fX3_treadsOf (j0 : Int64) (j2 : Int32)  : Option (Int32) :=
  fX3_treadsOf_b5  j2 j0 (0 : Int32)
-- X3_sing
noncomputable def fX3_sing_b53 (xP_light : Int32) (xP_water : Int32) (xP_nerves : Int32) (xP_kinds : Int32) (k7 : Int32 → Int64 → Int32 → Int32 → Int32 → Int32 → Int32 → Int32 → Option (Int32 × Int32 × Int32 × Int32 × Int32)) (j1 : Int32) (j2 : Int64) (j4 : Int32) (j5 : Int32) (xW_row : Int32) (xW_quiets : Int32) (xW_place : Int32) (xW_turned : Int32) : Option (Int32 × Int32 × Int32 × Int32 × Int32) :=
  k7 j1 j2 j4 (j5 + (1 : Int32)) xW_row xW_quiets xW_place xW_turned
noncomputable def fX3_sing_b7_S (xP_light : Int32) (xP_water : Int32) (xP_nerves : Int32) (xP_kinds : Int32)  (k7 : Int32 → Int64 → Int32 → Int32 → Int32 → Int32 → Int32 → Int32 → Option (Int32 × Int32 × Int32 × Int32 × Int32)) (j1 : Int32) (j2 : Int64) (j4 : Int32) (j5 : Int32) (xW_row : Int32) (xW_quiets : Int32) (xW_place : Int32) (xW_turned : Int32) : Option (Int32 × Int32 × Int32 × Int32 × Int32) :=
  if j1 ≤ j5 then (some (j4, xW_row, xW_quiets, xW_place, xW_turned)) else ((fX3_isOut xP_light xW_place).bind fun z14 => (if z14 = 0 then ((fX3_treadsOf j2 ((j1 - (1 : Int32)) - j5)).bind fun z28 => ((fX3_step z28 xP_water xP_nerves xP_kinds xW_row xW_quiets xW_place xW_turned).bind fun z31 => (if z31.2.2.2.2 = 0 then (fX3_sing_b53 xP_light xP_water xP_nerves xP_kinds k7 j1 j2 j4 j5 z31.2.1 z31.2.2.1 z31.2.2.2.1 z31.2.2.2.2) else (if j4 = (-9 : Int32) then (fX3_sing_b53 xP_light xP_water xP_nerves xP_kinds k7 j1 j2 j5 j5 z31.2.1 z31.2.2.1 z31.2.2.2.1 z31.2.2.2.2) else (fX3_sing_b53 xP_light xP_water xP_nerves xP_kinds k7 j1 j2 j4 j5 z31.2.1 z31.2.2.1 z31.2.2.2.1 z31.2.2.2.2))))) else (some (j4, xW_row, xW_quiets, xW_place, xW_turned))))
noncomputable def fX3_sing_b7 (xP_light : Int32) (xP_water : Int32) (xP_nerves : Int32) (xP_kinds : Int32)  : Int32 → Int64 → Int32 → Int32 → Int32 → Int32 → Int32 → Int32 → Option (Int32 × Int32 × Int32 × Int32 × Int32) := lp (fun _ _ _ _ _ _ _ _ => none) (fX3_sing_b7_S xP_light xP_water xP_nerves xP_kinds ) fu
noncomputable def fX3_sing (j1 : Int32) (j2 : Int64) (xP_light : Int32) (xP_water : Int32) (xP_nerves : Int32) (xP_kinds : Int32) (xW_row : Int32) (xW_quiets : Int32) (xW_place : Int32) (xW_turned : Int32) : Option (Int32 × Int32 × Int32 × Int32 × Int32) :=
  fX3_sing_b7 xP_light xP_water xP_nerves xP_kinds  j1 j2 (-9 : Int32) (0 : Int32) xW_row xW_quiets xW_place xW_turned
-- X4_left
noncomputable def fX4_left (j1 : Int32) (j2 : Int64) (xP_light : Int32) (xP_water : Int32) (xP_nerves : Int32) (xP_kinds : Int32) (xW1_row : Int32) (xW1_quiets : Int32) (xW1_place : Int32) (xW2_row : Int32) (xW2_quiets : Int32) (xW2_place : Int32) (xW2_turned : Int32) : Option (Int32 × Int32 × Int32 × Int32 × Int32) :=
  (fX4_isSong j1 j2).bind fun z2 => (if z2 = 0 then (some ((-2 : Int32), xW2_row, xW2_quiets, xW2_place, xW2_turned)) else ((fX3_state xW1_row xW1_quiets xW1_place).bind fun z19 => ((fX3_become z19 xW2_row xW2_quiets xW2_place).bind fun z22 => ((fX3_sing j1 j2 xP_light xP_water xP_nerves xP_kinds z22.1 z22.2.1 z22.2.2 xW2_turned).bind fun z31 => ((fX3_members z31.2.1).bind fun z39 => (some (z39, z31.2.1, z31.2.2.1, z31.2.2.2.1, z31.2.2.2.2)))))))
-- X5_hundred
noncomputable def fX5_hundred_b4_S  (k4 : Int32 → Int64 → Int32 → Option (Int64)) (j0 : Int32) (j1 : Int64) (j3 : Int32) : Option (Int64) :=
  if j0 ≤ j3 then (some (j1)) else (k4 j0 (j1 * (100 : Int64)) (j3 + (1 : Int32)))
noncomputable def fX5_hundred_b4  : Int32 → Int64 → Int32 → Option (Int64) := lp (fun _ _ _ => none) (fX5_hundred_b4_S ) fu
noncomputable def fX5_hundred (j0 : Int32)  : Option (Int64) :=
  fX5_hundred_b4  j0 (1 : Int64) (0 : Int32)
-- X5_treadsOf
noncomputable def fX5_treadsOf (j0 : Int32) (j1 : Int64) (j3 : Int32)  : Option (Int32) :=
  (fX5_hundred ((j0 - (1 : Int32)) - j3)).bind fun z6 => (if z6 = 0 then none else (some (((j1 / z6) - (j1 / z6) / (100 : Int64) * (100 : Int64)).toInt32)))
-- X5_noSong
noncomputable def fX5_noSong_b60 (k33 : Int32 → Int64 → Int32 → Int32 → Option (Int32)) (j0 : Int32) (j1 : Int64) (j4 : Int32) (y0 : Int32) : Option (Int32) :=
  k33 j0 j1 y0 (j4 + (1 : Int32))
noncomputable def fX5_noSong_b59 (k33 : Int32 → Int64 → Int32 → Int32 → Option (Int32)) (j0 : Int32) (j1 : Int64) (j4 : Int32) : Option (Int32) :=
  fX5_noSong_b60 k33 j0 j1 j4 (0 : Int32)
noncomputable def fX5_noSong_b33_S  (k33 : Int32 → Int64 → Int32 → Int32 → Option (Int32)) (j0 : Int32) (j1 : Int64) (j3 : Int32) (j4 : Int32) : Option (Int32) :=
  if j0 ≤ j4 then (if j3 = 0 then (some ((1 : Int32))) else (some ((0 : Int32)))) else (if j3 = 0 then (fX5_noSong_b59 k33 j0 j1 j4) else ((fX5_treadsOf j0 j1 j4).bind fun z47 => (if (31 : Int32) < z47 then (fX5_noSong_b59 k33 j0 j1 j4) else (fX5_noSong_b60 k33 j0 j1 j4 (1 : Int32)))))
noncomputable def fX5_noSong_b33  : Int32 → Int64 → Int32 → Int32 → Option (Int32) := lp (fun _ _ _ _ => none) (fX5_noSong_b33_S ) fu
noncomputable def fX5_noSong (j0 : Int32) (j1 : Int64)  : Option (Int32) :=
  (fX5_in j0.toInt64 (1 : Int64) (5 : Int64)).bind fun z6 => (if z6 = 0 then (some ((1 : Int32))) else ((fX5_hundred j0).bind fun z15 => ((fX5_in j1 (0 : Int64) (z15 - (1 : Int64))).bind fun z20 => (if z20 = 0 then (some ((1 : Int32))) else (fX5_noSong_b33  j0 j1 (1 : Int32) (0 : Int32))))))
-- X5_begin
noncomputable def fX5_begin_b2_S (xMpage : Nat → Int32)  (k2 : Int32 → (Nat → Int32) → Option ((Nat → Int32))) (j1 : Int32) (xMtrial : Nat → Int32) : Option ((Nat → Int32)) :=
  if (13 : Int32) ≤ j1 then (some (xMtrial)) else (if j1 < 0 ∨ 13 ≤ j1.toNatClampNeg then none else (if j1 < 0 ∨ 13 ≤ j1.toNatClampNeg then none else (k2 (j1 + (1 : Int32)) (upd xMtrial j1.toNatClampNeg (xMpage j1.toNatClampNeg)))))
noncomputable def fX5_begin_b2 (xMpage : Nat → Int32)  : Int32 → (Nat → Int32) → Option ((Nat → Int32)) := lp (fun _ _ => none) (fX5_begin_b2_S xMpage ) fu
noncomputable def fX5_begin  (xMpage : Nat → Int32) (xMtrial : Nat → Int32) : Option ((Nat → Int32)) :=
  fX5_begin_b2 xMpage  (0 : Int32) xMtrial
-- X5_sing
noncomputable def fX5_sing_b63 (xM_light : Int32) (xM_water : Int32) (xMnerve : Nat → Int32) (xMkind : Nat → Int32) (k7 : Int32 → Int64 → Int32 → Int32 → Int32 → (Nat → Int32) → Option (Int32 × Int32 × (Nat → Int32))) (j1 : Int32) (j2 : Int64) (j5 : Int32) (y0 : Int32) (xM_turned : Int32) (xMtrial : Nat → Int32) : Option (Int32 × Int32 × (Nat → Int32)) :=
  k7 j1 j2 y0 (j5 + (1 : Int32)) xM_turned xMtrial
noncomputable def fX5_sing_b61 (xM_light : Int32) (xM_water : Int32) (xMnerve : Nat → Int32) (xMkind : Nat → Int32) (k7 : Int32 → Int64 → Int32 → Int32 → Int32 → (Nat → Int32) → Option (Int32 × Int32 × (Nat → Int32))) (j1 : Int32) (j2 : Int64) (j4 : Int32) (j5 : Int32) (xM_turned : Int32) (xMtrial : Nat → Int32) : Option (Int32 × Int32 × (Nat → Int32)) :=
  fX5_sing_b63 xM_light xM_water xMnerve xMkind k7 j1 j2 j5 j4 xM_turned xMtrial
noncomputable def fX5_sing_b7_S (xM_light : Int32) (xM_water : Int32) (xMnerve : Nat → Int32) (xMkind : Nat → Int32)  (k7 : Int32 → Int64 → Int32 → Int32 → Int32 → (Nat → Int32) → Option (Int32 × Int32 × (Nat → Int32))) (j1 : Int32) (j2 : Int64) (j4 : Int32) (j5 : Int32) (xM_turned : Int32) (xMtrial : Nat → Int32) : Option (Int32 × Int32 × (Nat → Int32)) :=
  if j1 ≤ j5 then (some (j4, xM_turned, xMtrial)) else (if (11 : Int32) < 0 ∨ 13 ≤ (11 : Int32).toNatClampNeg then none else (if xM_light ≤ (xMtrial (11 : Int32).toNatClampNeg) then (some (j4, xM_turned, xMtrial)) else ((fX5_treadsOf j1 j2 j5).bind fun z36 => ((fX5_goMinute z36 xM_water xM_turned xMnerve xMkind xMtrial).bind fun z39 => (if z39.1 = 0 then (fX5_sing_b61 xM_light xM_water xMnerve xMkind k7 j1 j2 j4 j5 z39.2.1 z39.2.2) else (if j4 = (-9 : Int32) then (fX5_sing_b63 xM_light xM_water xMnerve xMkind k7 j1 j2 j5 j5 z39.2.1 z39.2.2) else (fX5_sing_b61 xM_light xM_water xMnerve xMkind k7 j1 j2 j4 j5 z39.2.1 z39.2.2)))))))
noncomputable def fX5_sing_b7 (xM_light : Int32) (xM_water : Int32) (xMnerve : Nat → Int32) (xMkind : Nat → Int32)  : Int32 → Int64 → Int32 → Int32 → Int32 → (Nat → Int32) → Option (Int32 × Int32 × (Nat → Int32)) := lp (fun _ _ _ _ _ _ => none) (fX5_sing_b7_S xM_light xM_water xMnerve xMkind ) fu
noncomputable def fX5_sing (j1 : Int32) (j2 : Int64) (xM_light : Int32) (xM_water : Int32) (xM_turned : Int32) (xMnerve : Nat → Int32) (xMkind : Nat → Int32) (xMtrial : Nat → Int32) : Option (Int32 × Int32 × (Nat → Int32)) :=
  fX5_sing_b7 xM_light xM_water xMnerve xMkind  j1 j2 (-9 : Int32) (0 : Int32) xM_turned xMtrial
-- X5_left
noncomputable def fX5_left (j1 : Int32) (j2 : Int64) (xM_thrown : Int32) (xM_light : Int32) (xM_water : Int32) (xM_turned : Int32) (xMnerve : Nat → Int32) (xMkind : Nat → Int32) (xMpage : Nat → Int32) (xMtrial : Nat → Int32) : Option (Int32 × Int32 × Int32 × (Nat → Int32)) :=
  (fX5_noSong j1 j2).bind fun z7 => (if z7 = 0 then ((fX5_begin xMpage xMtrial).bind fun z17 => ((fX5_sing j1 j2 xM_light xM_water xM_turned xMnerve xMkind z17).bind fun z23 => ((fX5_rowOf z23.2.2).bind fun z31 => (some (z31, (0 : Int32), z23.2.1, z23.2.2))))) else (some ((-2 : Int32), (0 : Int32), xM_turned, xMtrial)))
-- X4_firstTurn
noncomputable def fX4_firstTurn (j1 : Int32) (j2 : Int64) (xP_light : Int32) (xP_water : Int32) (xP_nerves : Int32) (xP_kinds : Int32) (xW1_row : Int32) (xW1_quiets : Int32) (xW1_place : Int32) (xW2_row : Int32) (xW2_quiets : Int32) (xW2_place : Int32) (xW2_turned : Int32) : Option (Int32 × Int32 × Int32 × Int32 × Int32) :=
  (fX4_isSong j1 j2).bind fun z2 => (if z2 = 0 then (some ((-2 : Int32), xW2_row, xW2_quiets, xW2_place, xW2_turned)) else ((fX3_state xW1_row xW1_quiets xW1_place).bind fun z19 => ((fX3_become z19 xW2_row xW2_quiets xW2_place).bind fun z22 => ((fX3_sing j1 j2 xP_light xP_water xP_nerves xP_kinds z22.1 z22.2.1 z22.2.2 xW2_turned).bind fun z31 => (some (z31.1, z31.2.1, z31.2.2.1, z31.2.2.2.1, z31.2.2.2.2))))))
-- X5_firstTurn
noncomputable def fX5_firstTurn (j1 : Int32) (j2 : Int64) (xM_thrown : Int32) (xM_light : Int32) (xM_water : Int32) (xM_turned : Int32) (xMnerve : Nat → Int32) (xMkind : Nat → Int32) (xMpage : Nat → Int32) (xMtrial : Nat → Int32) : Option (Int32 × Int32 × Int32 × (Nat → Int32)) :=
  (fX5_noSong j1 j2).bind fun z7 => (if z7 = 0 then ((fX5_begin xMpage xMtrial).bind fun z17 => ((fX5_sing j1 j2 xM_light xM_water xM_turned xMnerve xMkind z17).bind fun z23 => (some (z23.1, (0 : Int32), z23.2.1, z23.2.2)))) else (some ((-2 : Int32), (0 : Int32), xM_turned, xMtrial)))
-- X4_leftOf
noncomputable def fX4_leftOf (j1 : Int32) (j2 : Int32) (j3 : Int64) (xP_light : Int32) (xP_water : Int32) (xP_nerves : Int32) (xP_kinds : Int32) (xW1_place : Int32) (xW2_row : Int32) (xW2_quiets : Int32) (xW2_place : Int32) (xW2_turned : Int32) : Option (Int32 × Int32 × Int32 × Int32 × Int32) :=
  (fX3_place xW1_place).bind fun z9 => ((fX3_lineUp j1 z9 xW2_row xW2_quiets xW2_place).bind fun z12 => ((fX3_sing j2 j3 xP_light xP_water xP_nerves xP_kinds z12.1 z12.2.1 z12.2.2 xW2_turned).bind fun z21 => ((fX3_size z21.2.1).bind fun z29 => (some (z29, z21.2.1, z21.2.2.1, z21.2.2.2.1, z21.2.2.2.2)))))
-- X0_nextOrder
noncomputable def fX0_nextOrder_b86_S  (k86 : Int32 → Int32 → Int32 → Option (Int32)) (j4 : Int32) (j5 : Int32) (j6 : Int32) : Option (Int32) :=
  if j5 ≤ j6 then (some (j4)) else ((fX0_swapped j4 j6 j5).bind fun z99 => (k86 z99 (j5 + (-1 : Int32)) (j6 + (1 : Int32))))
noncomputable def fX0_nextOrder_b86  : Int32 → Int32 → Int32 → Option (Int32) := lp (fun _ _ _ => none) (fX0_nextOrder_b86_S ) fu
noncomputable def fX0_nextOrder_b70  (j0 : Int32) (j1 : Int32) (j2 : Int32) (j3 : Int32) : Option (Int32) :=
  (fX0_swapped j0 j2 j3).bind fun z73 => (fX0_nextOrder_b86  z73 j1 (j2 + (1 : Int32)))
noncomputable def fX0_nextOrder_b44_S  (k44 : Int32 → Int32 → Int32 → Int32 → Option (Int32)) (j0 : Int32) (j1 : Int32) (j2 : Int32) (j3 : Int32) : Option (Int32) :=
  if j3 ≤ (j2 + (1 : Int32)) then (fX0_nextOrder_b70  j0 j1 j2 j3) else ((fX0_at j0 j3).bind fun z53 => ((fX0_at j0 j2).bind fun z58 => (if z58 ≤ z53 then (fX0_nextOrder_b70  j0 j1 j2 j3) else (k44 j0 j1 j2 (j3 + (-1 : Int32))))))
noncomputable def fX0_nextOrder_b44  : Int32 → Int32 → Int32 → Int32 → Option (Int32) := lp (fun _ _ _ _ => none) (fX0_nextOrder_b44_S ) fu
noncomputable def fX0_nextOrder_b36  (j0 : Int32) (j1 : Int32) (j2 : Int32) : Option (Int32) :=
  if 0 ≤ j2 then (fX0_nextOrder_b44  j0 j1 j2 j1) else (some ((0 : Int32)))
noncomputable def fX0_nextOrder_b11_S  (k11 : Int32 → Int32 → Int32 → Option (Int32)) (j0 : Int32) (j1 : Int32) (j2 : Int32) : Option (Int32) :=
  if j2 < 0 then (fX0_nextOrder_b36  j0 j1 j2) else ((fX0_at j0 j2).bind fun z17 => ((fX0_at j0 (j2 + (1 : Int32))).bind fun z24 => (if z17 ≤ z24 then (fX0_nextOrder_b36  j0 j1 j2) else (k11 j0 j1 (j2 + (-1 : Int32))))))
noncomputable def fX0_nextOrder_b11  : Int32 → Int32 → Int32 → Option (Int32) := lp (fun _ _ _ => none) (fX0_nextOrder_b11_S ) fu
noncomputable def fX0_nextOrder (j0 : Int32)  : Option (Int32) :=
  (fX0_size j0).bind fun z1 => (fX0_nextOrder_b11  j0 (z1 - (1 : Int32)) ((z1 - (1 : Int32)) - (1 : Int32)))
-- X4_order
noncomputable def fX4_order_b103 (xP_light : Int32) (xP_water : Int32) (xP_nerves : Int32) (xP_kinds : Int32) (xW1_row : Int32) (xW1_place : Int32)  (j4 : Int32) (j5 : Int32) (j6 : Int32) (xW2_row : Int32) (xW2_quiets : Int32) (xW2_place : Int32) (xW2_turned : Int32) : Option (Int32 × Int32 × Int32 × Int32 × Int32) :=
  if j4 = 0 then ((fX0_figures j5).bind fun z110 => (some (z110, xW2_row, xW2_quiets, xW2_place, xW2_turned))) else (some (j6, xW2_row, xW2_quiets, xW2_place, xW2_turned))
noncomputable def fX4_order_b90 (xP_light : Int32) (xP_water : Int32) (xP_nerves : Int32) (xP_kinds : Int32) (xW1_row : Int32) (xW1_place : Int32) (k53 : Int32 → Int64 → Int32 → Int32 → Int32 → Int32 → Int32 → Int32 → Int32 → Int32 → Int32 → Option (Int32 × Int32 × Int32 × Int32 × Int32)) (j1 : Int32) (j2 : Int64) (j4 : Int32) (j5 : Int32) (j6 : Int32) (j7 : Int32) (j8 : Int32) (xW2_row : Int32) (xW2_quiets : Int32) (xW2_place : Int32) (xW2_turned : Int32) : Option (Int32 × Int32 × Int32 × Int32 × Int32) :=
  (fX0_nextOrder j7).bind fun z92 => (k53 j1 j2 j4 j5 j6 z92 (j8 + (1 : Int32)) xW2_row xW2_quiets xW2_place xW2_turned)
noncomputable def fX4_order_b53_S (xP_light : Int32) (xP_water : Int32) (xP_nerves : Int32) (xP_kinds : Int32) (xW1_row : Int32) (xW1_place : Int32)  (k53 : Int32 → Int64 → Int32 → Int32 → Int32 → Int32 → Int32 → Int32 → Int32 → Int32 → Int32 → Option (Int32 × Int32 × Int32 × Int32 × Int32)) (j1 : Int32) (j2 : Int64) (j4 : Int32) (j5 : Int32) (j6 : Int32) (j7 : Int32) (j8 : Int32) (xW2_row : Int32) (xW2_quiets : Int32) (xW2_place : Int32) (xW2_turned : Int32) : Option (Int32 × Int32 × Int32 × Int32 × Int32) :=
  if (120 : Int32) ≤ j8 then (fX4_order_b103 xP_light xP_water xP_nerves xP_kinds xW1_row xW1_place  j4 j5 j6 xW2_row xW2_quiets xW2_place xW2_turned) else (if j7 = 0 then (fX4_order_b103 xP_light xP_water xP_nerves xP_kinds xW1_row xW1_place  j4 j5 j6 xW2_row xW2_quiets xW2_place xW2_turned) else ((fX4_leftOf j7 j1 j2 xP_light xP_water xP_nerves xP_kinds xW1_place xW2_row xW2_quiets xW2_place xW2_turned).bind fun z70 => (if z70.1 ≤ j6 then (fX4_order_b90 xP_light xP_water xP_nerves xP_kinds xW1_row xW1_place k53 j1 j2 j4 j5 j6 j7 j8 z70.2.1 z70.2.2.1 z70.2.2.2.1 z70.2.2.2.2) else (fX4_order_b90 xP_light xP_water xP_nerves xP_kinds xW1_row xW1_place k53 j1 j2 j4 j7 z70.1 j7 j8 z70.2.1 z70.2.2.1 z70.2.2.2.1 z70.2.2.2.2))))
noncomputable def fX4_order_b53 (xP_light : Int32) (xP_water : Int32) (xP_nerves : Int32) (xP_kinds : Int32) (xW1_row : Int32) (xW1_place : Int32)  : Int32 → Int64 → Int32 → Int32 → Int32 → Int32 → Int32 → Int32 → Int32 → Int32 → Int32 → Option (Int32 × Int32 × Int32 × Int32 × Int32) := lp (fun _ _ _ _ _ _ _ _ _ _ _ => none) (fX4_order_b53_S xP_light xP_water xP_nerves xP_kinds xW1_row xW1_place ) fu
noncomputable def fX4_order (j1 : Int32) (j2 : Int64) (j4 : Int32) (xP_light : Int32) (xP_water : Int32) (xP_nerves : Int32) (xP_kinds : Int32) (xW1_row : Int32) (xW1_place : Int32) (xW2_row : Int32) (xW2_quiets : Int32) (xW2_place : Int32) (xW2_turned : Int32) : Option (Int32 × Int32 × Int32 × Int32 × Int32) :=
  (fX4_isSong j1 j2).bind fun z2 => (if z2 = 0 then (some ((-2 : Int32), xW2_row, xW2_quiets, xW2_place, xW2_turned)) else ((fX4_within j4 (0 : Int32) (1 : Int32)).bind fun z12 => (if z12 = 0 then (some ((-2 : Int32), xW2_row, xW2_quiets, xW2_place, xW2_turned)) else ((fX3_members xW1_row).bind fun z25 => ((fX0_ascending z25).bind fun z28 => ((fX4_leftOf z28 j1 j2 xP_light xP_water xP_nerves xP_kinds xW1_place xW2_row xW2_quiets xW2_place xW2_turned).bind fun z38 => ((fX0_nextOrder z28).bind fun z45 => (fX4_order_b53 xP_light xP_water xP_nerves xP_kinds xW1_row xW1_place  j1 j2 j4 z28 z38.1 z45 (1 : Int32) z38.2.1 z38.2.2.1 z38.2.2.2.1 z38.2.2.2.2))))))))
-- X5_hush
noncomputable def fX5_hush_b2_S  (k2 : Int32 → (Nat → Int32) → Option ((Nat → Int32))) (j1 : Int32) (xMtrial : Nat → Int32) : Option ((Nat → Int32)) :=
  if (5 : Int32) ≤ j1 then (some (xMtrial)) else (if ((6 : Int32) + j1) < 0 ∨ 13 ≤ ((6 : Int32) + j1).toNatClampNeg then none else (k2 (j1 + (1 : Int32)) (upd xMtrial ((6 : Int32) + j1).toNatClampNeg (0 : Int32))))
noncomputable def fX5_hush_b2  : Int32 → (Nat → Int32) → Option ((Nat → Int32)) := lp (fun _ _ => none) (fX5_hush_b2_S ) fu
noncomputable def fX5_hush  (xMtrial : Nat → Int32) : Option ((Nat → Int32)) :=
  fX5_hush_b2  (0 : Int32) xMtrial
-- X5_findOrder
noncomputable def fX5_findOrder_b226 (xM_light : Int32) (xM_water : Int32) (xMnerve : Nat → Int32) (xMkind : Nat → Int32) (xMpage : Nat → Int32) (k57 : Int32 → Int64 → Int32 → Int32 → Int32 → Int32 → Int32 → Int32 → (Nat → Int32) → Option (Int32 × Int32 × Int32 × (Nat → Int32))) (j1 : Int32) (j2 : Int64) (j4 : Int32) (j5 : Int32) (j6 : Int32) (xM_orderBest : Int32) (xM_orderMany : Int32) (xM_turned : Int32) (xMtrial : Nat → Int32) : Option (Int32 × Int32 × Int32 × (Nat → Int32)) :=
  k57 j1 j2 j4 j5 (j6 + (1 : Int32)) xM_orderBest xM_orderMany xM_turned xMtrial
noncomputable def fX5_findOrder_b223 (xM_light : Int32) (xM_water : Int32) (xMnerve : Nat → Int32) (xMkind : Nat → Int32) (xMpage : Nat → Int32) (k57 : Int32 → Int64 → Int32 → Int32 → Int32 → Int32 → Int32 → Int32 → (Nat → Int32) → Option (Int32 × Int32 × Int32 × (Nat → Int32))) (j1 : Int32) (j2 : Int64) (j4 : Int32) (j5 : Int32) (j6 : Int32) (y0 : Int32) (xM_orderBest : Int32) (xM_orderMany : Int32) (xM_turned : Int32) (xMtrial : Nat → Int32) : Option (Int32 × Int32 × Int32 × (Nat → Int32)) :=
  fX5_findOrder_b226 xM_light xM_water xMnerve xMkind xMpage k57 j1 j2 j4 j5 j6 xM_orderBest y0 xM_turned xMtrial
noncomputable def fX5_findOrder_b193 (xM_light : Int32) (xM_water : Int32) (xMnerve : Nat → Int32) (xMkind : Nat → Int32) (xMpage : Nat → Int32) (k57 : Int32 → Int64 → Int32 → Int32 → Int32 → Int32 → Int32 → Int32 → (Nat → Int32) → Option (Int32 × Int32 × Int32 × (Nat → Int32))) (j1 : Int32) (j2 : Int64) (j4 : Int32) (j5 : Int32) (j6 : Int32) (y0 : Int32) (xM_orderBest : Int32) (xM_orderMany : Int32) (xM_turned : Int32) (xMtrial : Nat → Int32) : Option (Int32 × Int32 × Int32 × (Nat → Int32)) :=
  if (5 : Int32) < 0 ∨ 13 ≤ (5 : Int32).toNatClampNeg then none else (if (xMtrial (5 : Int32).toNatClampNeg) ≤ xM_orderMany then (fX5_findOrder_b223 xM_light xM_water xMnerve xMkind xMpage k57 j1 j2 j4 j5 j6 xM_orderMany y0 xM_orderMany xM_turned xMtrial) else (if (5 : Int32) < 0 ∨ 13 ≤ (5 : Int32).toNatClampNeg then none else (fX5_findOrder_b223 xM_light xM_water xMnerve xMkind xMpage k57 j1 j2 j4 j5 j6 (xMtrial (5 : Int32).toNatClampNeg) y0 xM_orderMany xM_turned xMtrial)))
noncomputable def fX5_findOrder_b129 (xM_light : Int32) (xM_water : Int32) (xMnerve : Nat → Int32) (xMkind : Nat → Int32) (xMpage : Nat → Int32) (k57 : Int32 → Int64 → Int32 → Int32 → Int32 → Int32 → Int32 → Int32 → (Nat → Int32) → Option (Int32 × Int32 × Int32 × (Nat → Int32))) (k86 : Int32 → Int64 → Int32 → Int32 → Int32 → Int32 → Int32 → Int32 → Int32 → Int32 → Int32 → (Nat → Int32) → Option (Int32 × Int32 × Int32 × (Nat → Int32))) (j1 : Int32) (j2 : Int64) (j4 : Int32) (j5 : Int32) (j6 : Int32) (j8 : Int32) (j9 : Int32) (j10 : Int32) (y0 : Int32) (y1 : Int32) (xM_orderBest : Int32) (xM_orderMany : Int32) (xM_turned : Int32) (xMtrial : Nat → Int32) : Option (Int32 × Int32 × Int32 × (Nat → Int32)) :=
  if j9 < 0 ∨ 13 ≤ j9.toNatClampNeg then none else (k86 j1 j2 j4 j5 j6 (y1 ||| y0) j8 (j9 + (-1 : Int32)) xM_orderBest xM_orderMany xM_turned (upd xMtrial j9.toNatClampNeg j10))
noncomputable def fX5_findOrder_b127 (xM_light : Int32) (xM_water : Int32) (xMnerve : Nat → Int32) (xMkind : Nat → Int32) (xMpage : Nat → Int32) (k57 : Int32 → Int64 → Int32 → Int32 → Int32 → Int32 → Int32 → Int32 → (Nat → Int32) → Option (Int32 × Int32 × Int32 × (Nat → Int32))) (k86 : Int32 → Int64 → Int32 → Int32 → Int32 → Int32 → Int32 → Int32 → Int32 → Int32 → Int32 → (Nat → Int32) → Option (Int32 × Int32 × Int32 × (Nat → Int32))) (j1 : Int32) (j2 : Int64) (j4 : Int32) (j5 : Int32) (j6 : Int32) (j8 : Int32) (j9 : Int32) (j10 : Int32) (y0 : Int32) (xM_orderBest : Int32) (xM_orderMany : Int32) (xM_turned : Int32) (xMtrial : Nat → Int32) : Option (Int32 × Int32 × Int32 × (Nat → Int32)) :=
  fX5_findOrder_b129 xM_light xM_water xMnerve xMkind xMpage k57 k86 j1 j2 j4 j5 j6 j8 j9 j10 (32 : Int32) y0 xM_orderBest xM_orderMany xM_turned xMtrial
noncomputable def fX5_findOrder_b86_S (xM_light : Int32) (xM_water : Int32) (xMnerve : Nat → Int32) (xMkind : Nat → Int32) (xMpage : Nat → Int32) (k57 : Int32 → Int64 → Int32 → Int32 → Int32 → Int32 → Int32 → Int32 → (Nat → Int32) → Option (Int32 × Int32 × Int32 × (Nat → Int32))) (k86 : Int32 → Int64 → Int32 → Int32 → Int32 → Int32 → Int32 → Int32 → Int32 → Int32 → Int32 → (Nat → Int32) → Option (Int32 × Int32 × Int32 × (Nat → Int32))) (j1 : Int32) (j2 : Int64) (j4 : Int32) (j5 : Int32) (j6 : Int32) (j7 : Int32) (j8 : Int32) (j9 : Int32) (xM_orderBest : Int32) (xM_orderMany : Int32) (xM_turned : Int32) (xMtrial : Nat → Int32) : Option (Int32 × Int32 × Int32 × (Nat → Int32)) :=
  if j9 < 0 then ((fX5_rowOf xMpage).bind fun z153 => (if j7 = z153 then ((fX5_hush xMtrial).bind fun z160 => ((fX5_sing j1 j2 xM_light xM_water xM_turned xMnerve xMkind z160).bind fun z166 => (if (5 : Int32) < 0 ∨ 13 ≤ (5 : Int32).toNatClampNeg then none else (if (z166.2.2 (5 : Int32).toNatClampNeg) ≤ xM_orderMany then (fX5_findOrder_b193 xM_light xM_water xMnerve xMkind xMpage k57 j1 j2 j4 j5 j6 xM_orderBest xM_orderBest xM_orderMany z166.2.1 z166.2.2) else (fX5_findOrder_b193 xM_light xM_water xMnerve xMkind xMpage k57 j1 j2 j4 j5 j6 j6 xM_orderBest xM_orderMany z166.2.1 z166.2.2))))) else (fX5_findOrder_b226 xM_light xM_water xMnerve xMkind xMpage k57 j1 j2 j4 j5 j6 xM_orderBest xM_orderMany xM_turned xMtrial))) else (if ((j8 - j8 / (10 : Int32) * (10 : Int32)) - (1 : Int32)) < 0 then (fX5_findOrder_b127 xM_light xM_water xMnerve xMkind xMpage k57 k86 j1 j2 j4 j5 j6 (j8 / (10 : Int32)) j9 ((j8 - j8 / (10 : Int32) * (10 : Int32)) - (1 : Int32)) j7 xM_orderBest xM_orderMany xM_turned xMtrial) else (if (5 : Int32) ≤ ((j8 - j8 / (10 : Int32) * (10 : Int32)) - (1 : Int32)) then (fX5_findOrder_b127 xM_light xM_water xMnerve xMkind xMpage k57 k86 j1 j2 j4 j5 j6 (j8 / (10 : Int32)) j9 ((j8 - j8 / (10 : Int32) * (10 : Int32)) - (1 : Int32)) j7 xM_orderBest xM_orderMany xM_turned xMtrial) else (fX5_findOrder_b129 xM_light xM_water xMnerve xMkind xMpage k57 k86 j1 j2 j4 j5 j6 (j8 / (10 : Int32)) j9 ((j8 - j8 / (10 : Int32) * (10 : Int32)) - (1 : Int32)) ((1 : Int32) <<< (((j8 - j8 / (10 : Int32) * (10 : Int32)) - (1 : Int32)) &&& 31)) j7 xM_orderBest xM_orderMany xM_turned xMtrial)))
noncomputable def fX5_findOrder_b86 (xM_light : Int32) (xM_water : Int32) (xMnerve : Nat → Int32) (xMkind : Nat → Int32) (xMpage : Nat → Int32) (k57 : Int32 → Int64 → Int32 → Int32 → Int32 → Int32 → Int32 → Int32 → (Nat → Int32) → Option (Int32 × Int32 × Int32 × (Nat → Int32))) : Int32 → Int64 → Int32 → Int32 → Int32 → Int32 → Int32 → Int32 → Int32 → Int32 → Int32 → (Nat → Int32) → Option (Int32 × Int32 × Int32 × (Nat → Int32)) := lp (fun _ _ _ _ _ _ _ _ _ _ _ _ => none) (fX5_findOrder_b86_S xM_light xM_water xMnerve xMkind xMpage k57) fu
noncomputable def fX5_findOrder_b57_S (xM_light : Int32) (xM_water : Int32) (xMnerve : Nat → Int32) (xMkind : Nat → Int32) (xMpage : Nat → Int32)  (k57 : Int32 → Int64 → Int32 → Int32 → Int32 → Int32 → Int32 → Int32 → (Nat → Int32) → Option (Int32 × Int32 × Int32 × (Nat → Int32))) (j1 : Int32) (j2 : Int64) (j4 : Int32) (j5 : Int32) (j6 : Int32) (xM_orderBest : Int32) (xM_orderMany : Int32) (xM_turned : Int32) (xMtrial : Nat → Int32) : Option (Int32 × Int32 × Int32 × (Nat → Int32)) :=
  if j5 ≤ j6 then (some (xM_orderBest, xM_orderMany, xM_turned, xMtrial)) else (if j4 ≤ 0 then (some (xM_orderBest, xM_orderMany, xM_turned, xMtrial)) else ((fX5_begin xMpage xMtrial).bind fun z77 => (fX5_findOrder_b86 xM_light xM_water xMnerve xMkind xMpage k57 j1 j2 j4 j5 j6 (0 : Int32) j6 (j4 - (1 : Int32)) xM_orderBest xM_orderMany xM_turned z77)))
noncomputable def fX5_findOrder_b57 (xM_light : Int32) (xM_water : Int32) (xMnerve : Nat → Int32) (xMkind : Nat → Int32) (xMpage : Nat → Int32)  : Int32 → Int64 → Int32 → Int32 → Int32 → Int32 → Int32 → Int32 → (Nat → Int32) → Option (Int32 × Int32 × Int32 × (Nat → Int32)) := lp (fun _ _ _ _ _ _ _ _ _ => none) (fX5_findOrder_b57_S xM_light xM_water xMnerve xMkind xMpage ) fu
noncomputable def fX5_findOrder_b51 (xM_light : Int32) (xM_water : Int32) (xMnerve : Nat → Int32) (xMkind : Nat → Int32) (xMpage : Nat → Int32)  (j1 : Int32) (j2 : Int64) (j4 : Int32) (j5 : Int32) (y0 : Int32) (xM_orderBest : Int32) (xM_orderMany : Int32) (xM_turned : Int32) (xMtrial : Nat → Int32) : Option (Int32 × Int32 × Int32 × (Nat → Int32)) :=
  fX5_findOrder_b57 xM_light xM_water xMnerve xMkind xMpage  j1 j2 j4 j5 (0 : Int32) xM_orderBest y0 xM_turned xMtrial
noncomputable def fX5_findOrder_b14_S (xM_light : Int32) (xM_water : Int32) (xMnerve : Nat → Int32) (xMkind : Nat → Int32) (xMpage : Nat → Int32)  (k14 : Int32 → Int64 → Int32 → Int32 → Int32 → Int32 → Int32 → Int32 → (Nat → Int32) → Option (Int32 × Int32 × Int32 × (Nat → Int32))) (j1 : Int32) (j2 : Int64) (j4 : Int32) (j5 : Int32) (j6 : Int32) (xM_orderBest : Int32) (xM_orderMany : Int32) (xM_turned : Int32) (xMtrial : Nat → Int32) : Option (Int32 × Int32 × Int32 × (Nat → Int32)) :=
  if j4 ≤ j6 then (if j4 = 0 then (fX5_findOrder_b51 xM_light xM_water xMnerve xMkind xMpage  j1 j2 j4 j5 (0 : Int32) (0 : Int32) xM_orderMany xM_turned xMtrial) else (fX5_findOrder_b51 xM_light xM_water xMnerve xMkind xMpage  j1 j2 j4 j5 (-9 : Int32) (0 : Int32) xM_orderMany xM_turned xMtrial)) else (k14 j1 j2 j4 (j5 * (10 : Int32)) (j6 + (1 : Int32)) xM_orderBest xM_orderMany xM_turned xMtrial)
noncomputable def fX5_findOrder_b14 (xM_light : Int32) (xM_water : Int32) (xMnerve : Nat → Int32) (xMkind : Nat → Int32) (xMpage : Nat → Int32)  : Int32 → Int64 → Int32 → Int32 → Int32 → Int32 → Int32 → Int32 → (Nat → Int32) → Option (Int32 × Int32 × Int32 × (Nat → Int32)) := lp (fun _ _ _ _ _ _ _ _ _ => none) (fX5_findOrder_b14_S xM_light xM_water xMnerve xMkind xMpage ) fu
noncomputable def fX5_findOrder (j1 : Int32) (j2 : Int64) (xM_light : Int32) (xM_water : Int32) (xM_orderBest : Int32) (xM_orderMany : Int32) (xM_turned : Int32) (xMnerve : Nat → Int32) (xMkind : Nat → Int32) (xMpage : Nat → Int32) (xMtrial : Nat → Int32) : Option (Int32 × Int32 × Int32 × (Nat → Int32)) :=
  if (5 : Int32) < 0 ∨ 13 ≤ (5 : Int32).toNatClampNeg then none else (fX5_findOrder_b14 xM_light xM_water xMnerve xMkind xMpage  j1 j2 (xMpage (5 : Int32).toNatClampNeg) (1 : Int32) (0 : Int32) xM_orderBest xM_orderMany xM_turned xMtrial)
-- X5_order
noncomputable def fX5_order (j1 : Int32) (j2 : Int64) (j4 : Int32) (xM_thrown : Int32) (xM_light : Int32) (xM_water : Int32) (xM_orderBest : Int32) (xM_orderMany : Int32) (xM_turned : Int32) (xMnerve : Nat → Int32) (xMkind : Nat → Int32) (xMpage : Nat → Int32) (xMtrial : Nat → Int32) : Option (Int32 × Int32 × Int32 × Int32 × Int32 × (Nat → Int32)) :=
  (fX5_noSong j1 j2).bind fun z7 => (if z7 = 0 then ((fX5_in j4.toInt64 (0 : Int64) (1 : Int64)).bind fun z18 => (if z18 = 0 then (some ((-2 : Int32), (0 : Int32), xM_orderBest, xM_orderMany, xM_turned, xMtrial)) else ((fX5_findOrder j1 j2 xM_light xM_water xM_orderBest xM_orderMany xM_turned xMnerve xMkind xMpage xMtrial).bind fun z30 => (if j4 = 0 then (some (z30.1, (0 : Int32), z30.1, z30.2.1, z30.2.2.1, z30.2.2.2)) else (some (z30.2.1, (0 : Int32), z30.1, z30.2.1, z30.2.2.1, z30.2.2.2)))))) else (some ((-2 : Int32), (0 : Int32), xM_orderBest, xM_orderMany, xM_turned, xMtrial)))
-- X4_commonDivisor
noncomputable def fX4_commonDivisor_b9_S  (k9 : Int64 → Int64 → Int32 → Option (Int64)) (j4 : Int64) (j6 : Int64) (j8 : Int32) : Option (Int64) :=
  if (100 : Int32) ≤ j8 then (some (j4)) else (if (lg_cmp j6 (0 : Int64)) = 0 then (some (j4)) else (if j6 = 0 then none else (k9 j6 (j4 - j4 / j6 * j6) (j8 + (1 : Int32)))))
noncomputable def fX4_commonDivisor_b9  : Int64 → Int64 → Int32 → Option (Int64) := lp (fun _ _ _ => none) (fX4_commonDivisor_b9_S ) fu
noncomputable def fX4_commonDivisor (j0 : Int64) (j2 : Int64)  : Option (Int64) :=
  fX4_commonDivisor_b9  j0 j2 (0 : Int32)
-- X4_fraction
noncomputable def fX4_fraction_b29  (j5 : Int64) (y0 : Int64) : Option (Int32) :=
  if j5 = 0 then none else (some ((y0 / j5).toInt32))
noncomputable def fX4_fraction (j0 : Int64) (j2 : Int64) (j4 : Int32)  : Option (Int32) :=
  (fX4_commonDivisor (if 0 < j0 then j0 else -j0) j2).bind fun z5 => (if (lg_cmp z5 (0 : Int64)) = 0 then (some ((0 : Int32))) else (if j4 = 0 then (fX4_fraction_b29  z5 j2) else (fX4_fraction_b29  z5 j0)))
-- X0_only
noncomputable def fX0_only_b33 (k9 : Int32 → Int32 → Int32 → Int32 → Option (Int32)) (j0 : Int32) (j1 : Int32) (j2 : Int32) (j3 : Int32) : Option (Int32) :=
  k9 j0 j1 j2 (j3 + (-1 : Int32))
noncomputable def fX0_only_b9_S  (k9 : Int32 → Int32 → Int32 → Int32 → Option (Int32)) (j0 : Int32) (j1 : Int32) (j2 : Int32) (j3 : Int32) : Option (Int32) :=
  if j3 < 0 then (some (j2)) else ((fX0_at j0 j3).bind fun z16 => (if ((j1 >>> ((z16 - (1 : Int32)) &&& 31)) &&& (1 : Int32)) = 0 then ((fX0_without j2 j3).bind fun z29 => (fX0_only_b33 k9 j0 j1 z29 j3)) else (fX0_only_b33 k9 j0 j1 j2 j3)))
noncomputable def fX0_only_b9  : Int32 → Int32 → Int32 → Int32 → Option (Int32) := lp (fun _ _ _ _ => none) (fX0_only_b9_S ) fu
noncomputable def fX0_only (j0 : Int32) (j1 : Int32)  : Option (Int32) :=
  (fX0_size j0).bind fun z3 => (fX0_only_b9  j0 j1 j0 (z3 - (1 : Int32)))
-- X4_factorial
noncomputable def fX4_factorial_b4_S  (k4 : Int32 → Int32 → Int32 → Option (Int32)) (j0 : Int32) (j1 : Int32) (j2 : Int32) : Option (Int32) :=
  if j0 < j2 then (some (j1)) else (k4 j0 (j1 * j2) (j2 + (1 : Int32)))
noncomputable def fX4_factorial_b4  : Int32 → Int32 → Int32 → Option (Int32) := lp (fun _ _ _ => none) (fX4_factorial_b4_S ) fu
noncomputable def fX4_factorial (j0 : Int32)  : Option (Int32) :=
  fX4_factorial_b4  j0 (1 : Int32) (2 : Int32)
-- X4_share
noncomputable def fX4_share_b165 (xP_walkers : Int32) (xP_light : Int32) (xP_water : Int32) (xP_nerves : Int32) (xP_kinds : Int32) (xW1_row : Int32) (xW1_place : Int32) (k83 : Int32 → Int32 → Int64 → Int32 → Int32 → Int32 → Int32 → Int64 → Int32 → Int32 → Int32 → Int32 → Int32 → Option (Int32 × Int32 × Int32 × Int32 × Int32)) (j1 : Int32) (j2 : Int32) (j3 : Int64) (j5 : Int32) (j6 : Int32) (j7 : Int32) (j8 : Int32) (j9 : Int64) (j11 : Int32) (xW2_row : Int32) (xW2_quiets : Int32) (xW2_place : Int32) (xW2_turned : Int32) : Option (Int32 × Int32 × Int32 × Int32 × Int32) :=
  k83 j1 j2 j3 j5 j6 j7 j8 j9 (j11 + (1 : Int32)) xW2_row xW2_quiets xW2_place xW2_turned
noncomputable def fX4_share_b83_S (xP_walkers : Int32) (xP_light : Int32) (xP_water : Int32) (xP_nerves : Int32) (xP_kinds : Int32) (xW1_row : Int32) (xW1_place : Int32)  (k83 : Int32 → Int32 → Int64 → Int32 → Int32 → Int32 → Int32 → Int64 → Int32 → Int32 → Int32 → Int32 → Int32 → Option (Int32 × Int32 × Int32 × Int32 × Int32)) (j1 : Int32) (j2 : Int32) (j3 : Int64) (j5 : Int32) (j6 : Int32) (j7 : Int32) (j8 : Int32) (j9 : Int64) (j11 : Int32) (xW2_row : Int32) (xW2_quiets : Int32) (xW2_place : Int32) (xW2_turned : Int32) : Option (Int32 × Int32 × Int32 × Int32 × Int32) :=
  if j7 < j11 then ((fX4_factorial j8).bind fun z175 => ((fX4_fraction j9 z175.toInt64 j5).bind fun z181 => (some (z181, xW2_row, xW2_quiets, xW2_place, xW2_turned)))) else (if (j11 &&& (j7 ^^^ (-1 : Int32))) = 0 then ((fJ6_bitCount_0f7a4 j11).bind fun z102 => ((fX0_only j6 (j11 ||| ((1 : Int32) <<< (j1 &&& 31)))).bind fun z116 => ((fX4_leftOf z116 j2 j3 xP_light xP_water xP_nerves xP_kinds xW1_place xW2_row xW2_quiets xW2_place xW2_turned).bind fun z121 => ((fX0_only j6 j11).bind fun z129 => ((fX4_leftOf z129 j2 j3 xP_light xP_water xP_nerves xP_kinds xW1_place z121.2.1 z121.2.2.1 z121.2.2.2.1 z121.2.2.2.2).bind fun z134 => ((fX4_factorial z102).bind fun z146 => ((fX4_factorial ((j8 - (1 : Int32)) - z102)).bind fun z157 => (fX4_share_b165 xP_walkers xP_light xP_water xP_nerves xP_kinds xW1_row xW1_place k83 j1 j2 j3 j5 j6 j7 j8 (j9 + (((z121.1 - z134.1) * z146) * z157).toInt64) j11 z134.2.1 z134.2.2.1 z134.2.2.2.1 z134.2.2.2.2)))))))) else (fX4_share_b165 xP_walkers xP_light xP_water xP_nerves xP_kinds xW1_row xW1_place k83 j1 j2 j3 j5 j6 j7 j8 j9 j11 xW2_row xW2_quiets xW2_place xW2_turned))
noncomputable def fX4_share_b83 (xP_walkers : Int32) (xP_light : Int32) (xP_water : Int32) (xP_nerves : Int32) (xP_kinds : Int32) (xW1_row : Int32) (xW1_place : Int32)  : Int32 → Int32 → Int64 → Int32 → Int32 → Int32 → Int32 → Int64 → Int32 → Int32 → Int32 → Int32 → Int32 → Option (Int32 × Int32 × Int32 × Int32 × Int32) := lp (fun _ _ _ _ _ _ _ _ _ _ _ _ _ => none) (fX4_share_b83_S xP_walkers xP_light xP_water xP_nerves xP_kinds xW1_row xW1_place ) fu
noncomputable def fX4_share (j1 : Int32) (j2 : Int32) (j3 : Int64) (j5 : Int32) (xP_walkers : Int32) (xP_light : Int32) (xP_water : Int32) (xP_nerves : Int32) (xP_kinds : Int32) (xW1_row : Int32) (xW1_place : Int32) (xW2_row : Int32) (xW2_quiets : Int32) (xW2_place : Int32) (xW2_turned : Int32) : Option (Int32 × Int32 × Int32 × Int32 × Int32) :=
  (fX1_has j1 xP_walkers).bind fun z5 => (if z5 = 0 then (some ((-1 : Int32), xW2_row, xW2_quiets, xW2_place, xW2_turned)) else ((fX4_isSong j2 j3).bind fun z15 => (if z15 = 0 then (some ((-2 : Int32), xW2_row, xW2_quiets, xW2_place, xW2_turned)) else ((fX3_row xW1_row).bind fun z28 => ((fX3_members xW1_row).bind fun z37 => ((fX3_members xW1_row).bind fun z54 => (if (z37 &&& (((1 : Int32) <<< (j1 &&& 31)) ^^^ (-1 : Int32))) = z54 then ((fX4_fraction (0 : Int64) (1 : Int64) j5).bind fun z64 => (some (z64, xW2_row, xW2_quiets, xW2_place, xW2_turned))) else ((fX3_size xW1_row).bind fun z72 => (fX4_share_b83 xP_walkers xP_light xP_water xP_nerves xP_kinds xW1_row xW1_place  j1 j2 j3 j5 z28 (z37 &&& (((1 : Int32) <<< (j1 &&& 31)) ^^^ (-1 : Int32))) z72 (0 : Int64) (0 : Int32) xW2_row xW2_quiets xW2_place xW2_turned)))))))))
-- X5_worthOf
noncomputable def fX5_worthOf_b56 (xM_light : Int32) (xM_water : Int32) (xMnerve : Nat → Int32) (xMkind : Nat → Int32) (xMpage : Nat → Int32) (k14 : Int32 → Int32 → Int64 → Int32 → Int32 → Int32 → (Nat → Int32) → Option (Int32 × Int32 × (Nat → Int32))) (j1 : Int32) (j2 : Int32) (j3 : Int64) (j5 : Int32) (j6 : Int32) (xM_turned : Int32) (xMtrial : Nat → Int32) : Option (Int32 × Int32 × (Nat → Int32)) :=
  k14 j1 j2 j3 j5 (j6 + (1 : Int32)) xM_turned xMtrial
noncomputable def fX5_worthOf_b14_S (xM_light : Int32) (xM_water : Int32) (xMnerve : Nat → Int32) (xMkind : Nat → Int32) (xMpage : Nat → Int32)  (k14 : Int32 → Int32 → Int64 → Int32 → Int32 → Int32 → (Nat → Int32) → Option (Int32 × Int32 × (Nat → Int32))) (j1 : Int32) (j2 : Int32) (j3 : Int64) (j5 : Int32) (j6 : Int32) (xM_turned : Int32) (xMtrial : Nat → Int32) : Option (Int32 × Int32 × (Nat → Int32)) :=
  if (5 : Int32) < 0 ∨ 13 ≤ (5 : Int32).toNatClampNeg then none else (if (xMpage (5 : Int32).toNatClampNeg) ≤ j6 then (if (5 : Int32) < 0 ∨ 13 ≤ (5 : Int32).toNatClampNeg then none else ((fX5_sing j2 j3 xM_light xM_water xM_turned xMnerve xMkind (upd xMtrial (5 : Int32).toNatClampNeg j5)).bind fun z73 => (if (5 : Int32) < 0 ∨ 13 ≤ (5 : Int32).toNatClampNeg then none else (some ((z73.2.2 (5 : Int32).toNatClampNeg), z73.2.1, z73.2.2))))) else (if j6 < 0 ∨ 13 ≤ j6.toNatClampNeg then none else ((fX5_has j1 (xMpage j6.toNatClampNeg)).bind fun z33 => (if z33 = 0 then (fX5_worthOf_b56 xM_light xM_water xMnerve xMkind xMpage k14 j1 j2 j3 j5 j6 xM_turned xMtrial) else (if j6 < 0 ∨ 13 ≤ j6.toNatClampNeg then none else (if j5 < 0 ∨ 13 ≤ j5.toNatClampNeg then none else (fX5_worthOf_b56 xM_light xM_water xMnerve xMkind xMpage k14 j1 j2 j3 (j5 + (1 : Int32)) j6 xM_turned (upd xMtrial j5.toNatClampNeg (xMpage j6.toNatClampNeg)))))))))
noncomputable def fX5_worthOf_b14 (xM_light : Int32) (xM_water : Int32) (xMnerve : Nat → Int32) (xMkind : Nat → Int32) (xMpage : Nat → Int32)  : Int32 → Int32 → Int64 → Int32 → Int32 → Int32 → (Nat → Int32) → Option (Int32 × Int32 × (Nat → Int32)) := lp (fun _ _ _ _ _ _ _ => none) (fX5_worthOf_b14_S xM_light xM_water xMnerve xMkind xMpage ) fu
noncomputable def fX5_worthOf (j1 : Int32) (j2 : Int32) (j3 : Int64) (xM_light : Int32) (xM_water : Int32) (xM_turned : Int32) (xMnerve : Nat → Int32) (xMkind : Nat → Int32) (xMpage : Nat → Int32) (xMtrial : Nat → Int32) : Option (Int32 × Int32 × (Nat → Int32)) :=
  (fX5_begin xMpage xMtrial).bind fun z1 => ((fX5_hush z1).bind fun z5 => (fX5_worthOf_b14 xM_light xM_water xMnerve xMkind xMpage  j1 j2 j3 (0 : Int32) (0 : Int32) xM_turned z5))
-- X5_many
noncomputable def fX5_many_b4_S  (k4 : Int32 → Int32 → Int32 → Option (Int32)) (j0 : Int32) (j1 : Int32) (j2 : Int32) : Option (Int32) :=
  if (5 : Int32) ≤ j2 then (some (j1)) else (k4 j0 (j1 + ((j0 >>> (j2 &&& 31)) &&& (1 : Int32))) (j2 + (1 : Int32)))
noncomputable def fX5_many_b4  : Int32 → Int32 → Int32 → Option (Int32) := lp (fun _ _ _ => none) (fX5_many_b4_S ) fu
noncomputable def fX5_many (j0 : Int32)  : Option (Int32) :=
  fX5_many_b4  j0 (0 : Int32) (0 : Int32)
-- X5_orders
noncomputable def fX5_orders_b4_S  (k4 : Int32 → Int32 → Int32 → Option (Int32)) (j0 : Int32) (j1 : Int32) (j2 : Int32) : Option (Int32) :=
  if j0 < j2 then (some (j1)) else (k4 j0 (j1 * j2) (j2 + (1 : Int32)))
noncomputable def fX5_orders_b4  : Int32 → Int32 → Int32 → Option (Int32) := lp (fun _ _ _ => none) (fX5_orders_b4_S ) fu
noncomputable def fX5_orders (j0 : Int32)  : Option (Int32) :=
  fX5_orders_b4  j0 (1 : Int32) (2 : Int32)
-- X5_divisor
noncomputable def fX5_divisor_b13_S  (k13 : Int32 → Int32 → Option (Int32)) (j2 : Int32) (j3 : Int32) : Option (Int32) :=
  if j3 = 0 then (some (j2)) else (if j3 = 0 then none else (k13 j3 (j2 - j2 / j3 * j3)))
noncomputable def fX5_divisor_b13  : Int32 → Int32 → Option (Int32) := lp (fun _ _ => none) (fX5_divisor_b13_S ) fu
noncomputable def fX5_divisor_b10  (j1 : Int32) (y0 : Int32) : Option (Int32) :=
  fX5_divisor_b13  y0 j1
noncomputable def fX5_divisor (j0 : Int32) (j1 : Int32)  : Option (Int32) :=
  if 0 ≤ j0 then (fX5_divisor_b10  j1 j0) else (fX5_divisor_b10  j1 (-j0))
-- X5_fraction
noncomputable def fX5_fraction (j0 : Int32) (j1 : Int32) (j2 : Int32)  : Option (Int32) :=
  (fX5_divisor j0 j1).bind fun z2 => (if j2 = 0 then (if z2 = 0 then none else (some ((j1 / z2)))) else (if z2 = 0 then none else (some ((j0 / z2)))))
-- X5_share
noncomputable def fX5_share_b183 (xM_walkers : Int32) (xM_light : Int32) (xM_water : Int32) (xMnerve : Nat → Int32) (xMkind : Nat → Int32) (xMpage : Nat → Int32)  (j5 : Int32) (j7 : Int32) (j8 : Int32) (xM_thrown : Int32) (xM_turned : Int32) (xMtrial : Nat → Int32) (xMworth : Nat → Int32) : Option (Int32 × Int32 × Int32 × (Nat → Int32) × (Nat → Int32)) :=
  (fX5_orders j7).bind fun z187 => ((fX5_fraction j8 z187 j5).bind fun z192 => (some (z192, xM_thrown, xM_turned, xMtrial, xMworth)))
noncomputable def fX5_share_b177 (xM_walkers : Int32) (xM_light : Int32) (xM_water : Int32) (xMnerve : Nat → Int32) (xMkind : Nat → Int32) (xMpage : Nat → Int32) (k94 : Int32 → Int32 → Int32 → Int32 → Int32 → Int32 → Int32 → Int32 → (Nat → Int32) → (Nat → Int32) → Option (Int32 × Int32 × Int32 × (Nat → Int32) × (Nat → Int32))) (j1 : Int32) (j5 : Int32) (j6 : Int32) (j7 : Int32) (j8 : Int32) (j9 : Int32) (xM_thrown : Int32) (xM_turned : Int32) (xMtrial : Nat → Int32) (xMworth : Nat → Int32) : Option (Int32 × Int32 × Int32 × (Nat → Int32) × (Nat → Int32)) :=
  k94 j1 j5 j6 j7 j8 (j9 + (1 : Int32)) xM_thrown xM_turned xMtrial xMworth
noncomputable def fX5_share_b94_S (xM_walkers : Int32) (xM_light : Int32) (xM_water : Int32) (xMnerve : Nat → Int32) (xMkind : Nat → Int32) (xMpage : Nat → Int32)  (k94 : Int32 → Int32 → Int32 → Int32 → Int32 → Int32 → Int32 → Int32 → (Nat → Int32) → (Nat → Int32) → Option (Int32 × Int32 × Int32 × (Nat → Int32) × (Nat → Int32))) (j1 : Int32) (j5 : Int32) (j6 : Int32) (j7 : Int32) (j8 : Int32) (j9 : Int32) (xM_thrown : Int32) (xM_turned : Int32) (xMtrial : Nat → Int32) (xMworth : Nat → Int32) : Option (Int32 × Int32 × Int32 × (Nat → Int32) × (Nat → Int32)) :=
  if (32 : Int32) ≤ j9 then (fX5_share_b183 xM_walkers xM_light xM_water xMnerve xMkind xMpage  j5 j7 j8 xM_thrown xM_turned xMtrial xMworth) else ((fX5_has j6 j1).bind fun z104 => (if z104 = 0 then (fX5_share_b183 xM_walkers xM_light xM_water xMnerve xMkind xMpage  j5 j7 j8 xM_thrown xM_turned xMtrial xMworth) else (if (j9 &&& (j6 ^^^ (-1 : Int32))) = 0 then ((fX5_has j9 j1).bind fun z123 => (if z123 = 0 then ((fX5_many j9).bind fun z131 => ((fX5_orders z131).bind fun z140 => ((fX5_orders ((j7 - (1 : Int32)) - z131)).bind fun z150 => (if (j9 ||| ((1 : Int32) <<< (j1 &&& 31))) < 0 ∨ 32 ≤ (j9 ||| ((1 : Int32) <<< (j1 &&& 31))).toNatClampNeg then none else (if j9 < 0 ∨ 32 ≤ j9.toNatClampNeg then none else (fX5_share_b177 xM_walkers xM_light xM_water xMnerve xMkind xMpage k94 j1 j5 j6 j7 (j8 + ((z140 * z150) * ((xMworth (j9 ||| ((1 : Int32) <<< (j1 &&& 31))).toNatClampNeg) - (xMworth j9.toNatClampNeg)))) j9 xM_thrown xM_turned xMtrial xMworth)))))) else (fX5_share_b177 xM_walkers xM_light xM_water xMnerve xMkind xMpage k94 j1 j5 j6 j7 j8 j9 xM_thrown xM_turned xMtrial xMworth))) else (fX5_share_b177 xM_walkers xM_light xM_water xMnerve xMkind xMpage k94 j1 j5 j6 j7 j8 j9 xM_thrown xM_turned xMtrial xMworth))))
noncomputable def fX5_share_b94 (xM_walkers : Int32) (xM_light : Int32) (xM_water : Int32) (xMnerve : Nat → Int32) (xMkind : Nat → Int32) (xMpage : Nat → Int32)  : Int32 → Int32 → Int32 → Int32 → Int32 → Int32 → Int32 → Int32 → (Nat → Int32) → (Nat → Int32) → Option (Int32 × Int32 × Int32 × (Nat → Int32) × (Nat → Int32)) := lp (fun _ _ _ _ _ _ _ _ _ _ => none) (fX5_share_b94_S xM_walkers xM_light xM_water xMnerve xMkind xMpage ) fu
noncomputable def fX5_share_b84 (xM_walkers : Int32) (xM_light : Int32) (xM_water : Int32) (xMnerve : Nat → Int32) (xMkind : Nat → Int32) (xMpage : Nat → Int32) (k49 : Int32 → Int32 → Int64 → Int32 → Int32 → Int32 → Int32 → Int32 → Int32 → Int32 → (Nat → Int32) → (Nat → Int32) → Option (Int32 × Int32 × Int32 × (Nat → Int32) × (Nat → Int32))) (j1 : Int32) (j2 : Int32) (j3 : Int64) (j5 : Int32) (j6 : Int32) (j7 : Int32) (j8 : Int32) (j9 : Int32) (y0 : Int32) (y1 : Int32) (xM_thrown : Int32) (xM_turned : Int32) (xMtrial : Nat → Int32) (xMworth : Nat → Int32) : Option (Int32 × Int32 × Int32 × (Nat → Int32) × (Nat → Int32)) :=
  if y1 < 0 ∨ 32 ≤ y1.toNatClampNeg then none else (k49 j1 j2 j3 j5 j6 j7 j8 (j9 + (1 : Int32)) xM_thrown xM_turned xMtrial (upd xMworth y1.toNatClampNeg y0))
noncomputable def fX5_share_b49_S (xM_walkers : Int32) (xM_light : Int32) (xM_water : Int32) (xMnerve : Nat → Int32) (xMkind : Nat → Int32) (xMpage : Nat → Int32)  (k49 : Int32 → Int32 → Int64 → Int32 → Int32 → Int32 → Int32 → Int32 → Int32 → Int32 → (Nat → Int32) → (Nat → Int32) → Option (Int32 × Int32 × Int32 × (Nat → Int32) × (Nat → Int32))) (j1 : Int32) (j2 : Int32) (j3 : Int64) (j5 : Int32) (j6 : Int32) (j7 : Int32) (j8 : Int32) (j9 : Int32) (xM_thrown : Int32) (xM_turned : Int32) (xMtrial : Nat → Int32) (xMworth : Nat → Int32) : Option (Int32 × Int32 × Int32 × (Nat → Int32) × (Nat → Int32)) :=
  if (32 : Int32) ≤ j9 then (fX5_share_b94 xM_walkers xM_light xM_water xMnerve xMkind xMpage  j1 j5 j6 j7 j8 (0 : Int32) xM_thrown xM_turned xMtrial xMworth) else (if (j9 &&& (j6 ^^^ (-1 : Int32))) = 0 then ((fX5_worthOf j9 j2 j3 xM_light xM_water xM_turned xMnerve xMkind xMpage xMtrial).bind fun z77 => (fX5_share_b84 xM_walkers xM_light xM_water xMnerve xMkind xMpage k49 j1 j2 j3 j5 j6 j7 j8 j9 z77.1 j9 xM_thrown z77.2.1 z77.2.2 xMworth)) else (fX5_share_b84 xM_walkers xM_light xM_water xMnerve xMkind xMpage k49 j1 j2 j3 j5 j6 j7 j8 j9 (0 : Int32) j9 xM_thrown xM_turned xMtrial xMworth))
noncomputable def fX5_share_b49 (xM_walkers : Int32) (xM_light : Int32) (xM_water : Int32) (xMnerve : Nat → Int32) (xMkind : Nat → Int32) (xMpage : Nat → Int32)  : Int32 → Int32 → Int64 → Int32 → Int32 → Int32 → Int32 → Int32 → Int32 → Int32 → (Nat → Int32) → (Nat → Int32) → Option (Int32 × Int32 × Int32 × (Nat → Int32) × (Nat → Int32)) := lp (fun _ _ _ _ _ _ _ _ _ _ _ _ => none) (fX5_share_b49_S xM_walkers xM_light xM_water xMnerve xMkind xMpage ) fu
noncomputable def fX5_share (j1 : Int32) (j2 : Int32) (j3 : Int64) (j5 : Int32) (xM_thrown : Int32) (xM_walkers : Int32) (xM_light : Int32) (xM_water : Int32) (xM_turned : Int32) (xMnerve : Nat → Int32) (xMkind : Nat → Int32) (xMpage : Nat → Int32) (xMtrial : Nat → Int32) (xMworth : Nat → Int32) : Option (Int32 × Int32 × Int32 × (Nat → Int32) × (Nat → Int32)) :=
  (fX5_noOne j1 xM_walkers).bind fun z7 => (if z7 = 0 then ((fX5_noSong j2 j3).bind fun z17 => (if z17 = 0 then ((fX5_rowOf xMpage).bind fun z30 => (if (5 : Int32) < 0 ∨ 13 ≤ (5 : Int32).toNatClampNeg then none else (fX5_share_b49 xM_walkers xM_light xM_water xMnerve xMkind xMpage  j1 j2 j3 j5 z30 (xMpage (5 : Int32).toNatClampNeg) (0 : Int32) (0 : Int32) (0 : Int32) xM_turned xMtrial xMworth))) else (some ((-2 : Int32), (0 : Int32), xM_turned, xMtrial, xMworth)))) else (some ((-1 : Int32), (0 : Int32), xM_turned, xMtrial, xMworth)))
-- X3_turned
noncomputable def fX3_turned  (xW_turned : Int32) : Option (Int32) :=
  some (xW_turned)
-- X4_bears
noncomputable def fX4_bears_b61_S (xP_walkers : Int32) (xP_light : Int32) (xP_water : Int32) (xP_nerves : Int32) (xP_kinds : Int32) (xW1_row : Int32) (xW1_quiets : Int32) (xW1_place : Int32)  (k61 : Int32 → Int32 → Int32 → Int32 → Int32 → Int32 → Int32 → Option (Int32 × Int32 × Int32 × Int32 × Int32)) (j1 : Int32) (j2 : Int32) (j3 : Int32) (xW2_row : Int32) (xW2_quiets : Int32) (xW2_place : Int32) (xW2_turned : Int32) : Option (Int32 × Int32 × Int32 × Int32 × Int32) :=
  if j2 < j3 then (some ((-9 : Int32), xW2_row, xW2_quiets, xW2_place, xW2_turned)) else ((fX3_step (0 : Int32) xP_water xP_nerves xP_kinds xW2_row xW2_quiets xW2_place xW2_turned).bind fun z71 => ((fX3_turned z71.2.2.2.2).bind fun z79 => (if ((z79 >>> (j1 &&& 31)) &&& (1 : Int32)) = (1 : Int32) then (some (j3, z71.2.1, z71.2.2.1, z71.2.2.2.1, z71.2.2.2.2)) else (k61 j1 j2 (j3 + (1 : Int32)) z71.2.1 z71.2.2.1 z71.2.2.2.1 z71.2.2.2.2))))
noncomputable def fX4_bears_b61 (xP_walkers : Int32) (xP_light : Int32) (xP_water : Int32) (xP_nerves : Int32) (xP_kinds : Int32) (xW1_row : Int32) (xW1_quiets : Int32) (xW1_place : Int32)  : Int32 → Int32 → Int32 → Int32 → Int32 → Int32 → Int32 → Option (Int32 × Int32 × Int32 × Int32 × Int32) := lp (fun _ _ _ _ _ _ _ => none) (fX4_bears_b61_S xP_walkers xP_light xP_water xP_nerves xP_kinds xW1_row xW1_quiets xW1_place ) fu
noncomputable def fX4_bears (j1 : Int32) (xP_walkers : Int32) (xP_light : Int32) (xP_water : Int32) (xP_nerves : Int32) (xP_kinds : Int32) (xW1_row : Int32) (xW1_quiets : Int32) (xW1_place : Int32) (xW2_row : Int32) (xW2_quiets : Int32) (xW2_place : Int32) (xW2_turned : Int32) : Option (Int32 × Int32 × Int32 × Int32 × Int32) :=
  (fX1_has j1 xP_walkers).bind fun z5 => (if z5 = 0 then (some ((-1 : Int32), xW2_row, xW2_quiets, xW2_place, xW2_turned)) else ((fX3_indexOf j1 xW1_row).bind fun z18 => (if z18 = (-9 : Int32) then (some ((-3 : Int32), xW2_row, xW2_quiets, xW2_place, xW2_turned)) else ((fX3_state xW1_row xW1_quiets xW1_place).bind fun z37 => ((fX3_become z37 xW2_row xW2_quiets xW2_place).bind fun z40 => ((fX1_light xP_light).bind fun z47 => ((fX3_place xW1_place).bind fun z54 => (fX4_bears_b61 xP_walkers xP_light xP_water xP_nerves xP_kinds xW1_row xW1_quiets xW1_place  j1 (z47 - z54) (1 : Int32) z40.1 z40.2.1 z40.2.2 xW2_turned))))))))
-- X5_bears
noncomputable def fX5_bears_b38_S (xM_walkers : Int32) (xM_light : Int32) (xM_water : Int32) (xMnerve : Nat → Int32) (xMkind : Nat → Int32) (xMpage : Nat → Int32)  (k38 : Int32 → Int32 → Int32 → Int32 → (Nat → Int32) → Option (Int32 × Int32 × Int32 × (Nat → Int32))) (j1 : Int32) (j2 : Int32) (xM_thrown : Int32) (xM_turned : Int32) (xMtrial : Nat → Int32) : Option (Int32 × Int32 × Int32 × (Nat → Int32)) :=
  if (11 : Int32) < 0 ∨ 13 ≤ (11 : Int32).toNatClampNeg then none else (if xM_light ≤ (xMtrial (11 : Int32).toNatClampNeg) then (some ((-9 : Int32), xM_thrown, xM_turned, xMtrial)) else ((fX5_goMinute (0 : Int32) xM_water xM_turned xMnerve xMkind xMtrial).bind fun z58 => ((fX5_has z58.2.1 j1).bind fun z67 => (if z67 = 0 then (k38 j1 (j2 + (1 : Int32)) xM_thrown z58.2.1 z58.2.2) else (some (j2, xM_thrown, z58.2.1, z58.2.2))))))
noncomputable def fX5_bears_b38 (xM_walkers : Int32) (xM_light : Int32) (xM_water : Int32) (xMnerve : Nat → Int32) (xMkind : Nat → Int32) (xMpage : Nat → Int32)  : Int32 → Int32 → Int32 → Int32 → (Nat → Int32) → Option (Int32 × Int32 × Int32 × (Nat → Int32)) := lp (fun _ _ _ _ _ => none) (fX5_bears_b38_S xM_walkers xM_light xM_water xMnerve xMkind xMpage ) fu
noncomputable def fX5_bears (j1 : Int32) (xM_thrown : Int32) (xM_walkers : Int32) (xM_light : Int32) (xM_water : Int32) (xM_turned : Int32) (xMnerve : Nat → Int32) (xMkind : Nat → Int32) (xMpage : Nat → Int32) (xMtrial : Nat → Int32) : Option (Int32 × Int32 × Int32 × (Nat → Int32)) :=
  (fX5_noOne j1 xM_walkers).bind fun z7 => (if z7 = 0 then (if (12 : Int32) < 0 ∨ 13 ≤ (12 : Int32).toNatClampNeg then none else ((fX5_has (xMpage (12 : Int32).toNatClampNeg) j1).bind fun z23 => (if z23 = 0 then ((fX5_begin xMpage xMtrial).bind fun z33 => (fX5_bears_b38 xM_walkers xM_light xM_water xMnerve xMkind xMpage  j1 (1 : Int32) (0 : Int32) xM_turned z33)) else (some ((-3 : Int32), (0 : Int32), xM_turned, xMtrial))))) else (some ((-1 : Int32), (0 : Int32), xM_turned, xMtrial)))
-- X4_isTenths
noncomputable def fX4_isTenths (j0 : Int32)  : Option (Int32) :=
  (fX4_within j0 (0 : Int32) (10 : Int32)).bind fun z4 => (if z4 = 0 ∨ z4 = 1 then some (z4) else none)
-- X4_still
noncomputable def fX4_still_b122 (k49 : Int32 → Int32 → Int32 → Int32 → Int32 → Int64 → Int64 → Int32 → Option (Int32)) (j1 : Int32) (j2 : Int32) (j3 : Int32) (j4 : Int32) (j5 : Int32) (j8 : Int64) (j10 : Int32) (y0 : Int32) (y1 : Int64) : Option (Int32) :=
  k49 j1 j2 j3 j4 j5 (y1 * y0.toInt64) j8 (j10 + (1 : Int32))
noncomputable def fX4_still_b98 (k49 : Int32 → Int32 → Int32 → Int32 → Int32 → Int64 → Int64 → Int32 → Option (Int32)) (j1 : Int32) (j2 : Int32) (j3 : Int32) (j4 : Int32) (j5 : Int32) (j6 : Int64) (j10 : Int32) (j11 : Int32) (y0 : Int64) : Option (Int32) :=
  if j11 = 0 then (fX4_still_b122 k49 j1 j2 j3 j4 j5 y0 j10 ((10 : Int32) - j3) (j6 * ((10 : Int32) - j4).toInt64)) else (fX4_still_b122 k49 j1 j2 j3 j4 j5 y0 j10 j3 (j6 * ((10 : Int32) - j4).toInt64))
noncomputable def fX4_still_b70 (k49 : Int32 → Int32 → Int32 → Int32 → Int32 → Int64 → Int64 → Int32 → Option (Int32)) (j1 : Int32) (j2 : Int32) (j3 : Int32) (j4 : Int32) (j5 : Int32) (j6 : Int64) (j8 : Int64) (j10 : Int32) (y0 : Int32) : Option (Int32) :=
  if y0 = 0 then (fX4_still_b98 k49 j1 j2 j3 j4 j5 j6 j10 y0 ((j8 * (100 : Int64)) + ((j6 * j4.toInt64) * (10 : Int64)))) else (fX4_still_b98 k49 j1 j2 j3 j4 j5 j6 j10 y0 (0 : Int64))
noncomputable def fX4_still_b49_S  (k49 : Int32 → Int32 → Int32 → Int32 → Int32 → Int64 → Int64 → Int32 → Option (Int32)) (j1 : Int32) (j2 : Int32) (j3 : Int32) (j4 : Int32) (j5 : Int32) (j6 : Int64) (j8 : Int64) (j10 : Int32) : Option (Int32) :=
  if j1 ≤ j10 then (if (lg_cmp (j6 + j8) (0 : Int64)) = 0 then (some ((-3 : Int32))) else ((fX4_fraction j6 (j6 + j8) j5).bind fun z156 => (some (z156)))) else (if ((j2 >>> (j10 &&& 31)) &&& (1 : Int32)) = (1 : Int32) then (fX4_still_b70 k49 j1 j2 j3 j4 j5 j6 j8 j10 (1 : Int32)) else (fX4_still_b70 k49 j1 j2 j3 j4 j5 j6 j8 j10 (0 : Int32)))
noncomputable def fX4_still_b49  : Int32 → Int32 → Int32 → Int32 → Int32 → Int64 → Int64 → Int32 → Option (Int32) := lp (fun _ _ _ _ _ _ _ _ => none) (fX4_still_b49_S ) fu
noncomputable def fX4_still (j1 : Int32) (j2 : Int32) (j3 : Int32) (j4 : Int32) (j5 : Int32)  : Option (Int32) :=
  (fX4_within j1 (1 : Int32) (4 : Int32)).bind fun z3 => (if z3 = 0 then (some ((-2 : Int32))) else ((fX4_within j2 (0 : Int32) (((1 : Int32) <<< (j1 &&& 31)) - (1 : Int32))).bind fun z16 => (if z16 = 0 then (some ((-2 : Int32))) else ((fX4_isTenths j3).bind fun z23 => (if z23 = 0 then (some ((-2 : Int32))) else ((fX4_isTenths j4).bind fun z31 => (if z31 = 0 then (some ((-2 : Int32))) else (fX4_still_b49  j1 j2 j3 j4 j5 (1 : Int64) (0 : Int64) (0 : Int32)))))))))
-- X5_ten
noncomputable def fX5_ten_b4_S  (k4 : Int32 → Int32 → Int32 → Option (Int32)) (j0 : Int32) (j1 : Int32) (j2 : Int32) : Option (Int32) :=
  if j0 ≤ j2 then (some (j1)) else (k4 j0 (j1 * (10 : Int32)) (j2 + (1 : Int32)))
noncomputable def fX5_ten_b4  : Int32 → Int32 → Int32 → Option (Int32) := lp (fun _ _ _ => none) (fX5_ten_b4_S ) fu
noncomputable def fX5_ten (j0 : Int32)  : Option (Int32) :=
  fX5_ten_b4  j0 (1 : Int32) (0 : Int32)
-- X5_still
noncomputable def fX5_still_b136 (k69 : Int32 → Int32 → Int32 → Int32 → Int32 → Int32 → Int32 → Int32 → Int32 → Option (Int32 × Int32)) (j1 : Int32) (j2 : Int32) (j3 : Int32) (j4 : Int32) (j5 : Int32) (j7 : Int32) (j8 : Int32) (y0 : Int32) (y1 : Int32) (y2 : Int32) (xM_thrown : Int32) : Option (Int32 × Int32) :=
  k69 j1 j2 j3 j4 j5 (y2 * (y1 * y0)) j7 (j8 + (1 : Int32)) xM_thrown
noncomputable def fX5_still_b91 (k69 : Int32 → Int32 → Int32 → Int32 → Int32 → Int32 → Int32 → Int32 → Int32 → Option (Int32 × Int32)) (j1 : Int32) (j2 : Int32) (j3 : Int32) (j4 : Int32) (j5 : Int32) (j6 : Int32) (j7 : Int32) (j8 : Int32) (y0 : Int32) (xM_thrown : Int32) : Option (Int32 × Int32) :=
  (fX5_ten (((2 : Int32) * (j1 - j8)) - (1 : Int32))).bind fun z105 => ((fX5_has j2 j8).bind fun z122 => (if z122 = 0 then (fX5_still_b136 k69 j1 j2 j3 j4 j5 (j7 + (y0 * z105)) j8 ((10 : Int32) - j3) ((10 : Int32) - j4) j6 xM_thrown) else (fX5_still_b136 k69 j1 j2 j3 j4 j5 (j7 + (y0 * z105)) j8 j3 ((10 : Int32) - j4) j6 xM_thrown)))
noncomputable def fX5_still_b69_S  (k69 : Int32 → Int32 → Int32 → Int32 → Int32 → Int32 → Int32 → Int32 → Int32 → Option (Int32 × Int32)) (j1 : Int32) (j2 : Int32) (j3 : Int32) (j4 : Int32) (j5 : Int32) (j6 : Int32) (j7 : Int32) (j8 : Int32) (xM_thrown : Int32) : Option (Int32 × Int32) :=
  if j1 ≤ j8 then (if (j7 + j6) = 0 then (some ((-3 : Int32), xM_thrown)) else ((fX5_fraction j6 (j7 + j6) j5).bind fun z169 => (some (z169, xM_thrown)))) else (if (j2 >>> (j8 &&& 31)) = 0 then (fX5_still_b91 k69 j1 j2 j3 j4 j5 j6 j7 j8 (j6 * j4) xM_thrown) else (fX5_still_b91 k69 j1 j2 j3 j4 j5 j6 j7 j8 (0 : Int32) xM_thrown))
noncomputable def fX5_still_b69  : Int32 → Int32 → Int32 → Int32 → Int32 → Int32 → Int32 → Int32 → Int32 → Option (Int32 × Int32) := lp (fun _ _ _ _ _ _ _ _ _ => none) (fX5_still_b69_S ) fu
noncomputable def fX5_still (j1 : Int32) (j2 : Int32) (j3 : Int32) (j4 : Int32) (j5 : Int32) (xM_thrown : Int32) : Option (Int32 × Int32) :=
  (fX5_in j1.toInt64 (1 : Int64) (4 : Int64)).bind fun z11 => (if z11 = 0 then (some ((-2 : Int32), (0 : Int32))) else ((fX5_in j2.toInt64 (0 : Int64) ((((1 : Int32) <<< (j1 &&& 31)) - (1 : Int32)).toInt64)).bind fun z26 => (if z26 = 0 then (some ((-2 : Int32), (0 : Int32))) else ((fX5_in j3.toInt64 (0 : Int64) (10 : Int64)).bind fun z38 => (if z38 = 0 then (some ((-2 : Int32), (0 : Int32))) else ((fX5_in j4.toInt64 (0 : Int64) (10 : Int64)).bind fun z51 => (if z51 = 0 then (some ((-2 : Int32), (0 : Int32))) else (fX5_still_b69  j1 j2 j3 j4 j5 (1 : Int32) (0 : Int32) (0 : Int32) (0 : Int32)))))))))
-- X4_pebbles
noncomputable def fX4_pebbles_b53  (j2 : Int32) (j3 : Int32) (j4 : Int32) (j5 : Int32) : Option (Int32) :=
  if j2 < j4 then (if j3 = 0 then (some (j5)) else (if j2 ≤ 0 then (some (j5)) else (some ((j5 + (1 : Int32)))))) else (some ((-9 : Int32)))
noncomputable def fX4_pebbles_b28_S  (k28 : Int32 → Int32 → Int32 → Int32 → Int32 → Option (Int32)) (j1 : Int32) (j2 : Int32) (j3 : Int32) (j4 : Int32) (j5 : Int32) : Option (Int32) :=
  if (6 : Int32) ≤ j5 then (fX4_pebbles_b53  j2 j3 j4 j5) else (if j2 < j4 then (fX4_pebbles_b53  j2 j3 j4 j5) else (k28 j1 j2 j3 (j4 * j1) (j5 + (1 : Int32))))
noncomputable def fX4_pebbles_b28  : Int32 → Int32 → Int32 → Int32 → Int32 → Option (Int32) := lp (fun _ _ _ _ _ => none) (fX4_pebbles_b28_S ) fu
noncomputable def fX4_pebbles (j1 : Int32) (j2 : Int32) (j3 : Int32)  : Option (Int32) :=
  (fX4_within j1 (1 : Int32) (5 : Int32)).bind fun z3 => (if z3 = 0 then (some ((-2 : Int32))) else ((fX4_within j2 (0 : Int32) (50 : Int32)).bind fun z13 => (if z13 = 0 then (some ((-2 : Int32))) else (fX4_pebbles_b28  j1 j2 j3 (1 : Int32) (0 : Int32)))))
-- X5_pebbles
noncomputable def fX5_pebbles_b60_S  (k60 : Int32 → Int32 → Int32 → Int32 → Int32 → Option (Int32 × Int32)) (j1 : Int32) (j2 : Int32) (j4 : Int32) (j5 : Int32) (xM_thrown : Int32) : Option (Int32 × Int32) :=
  if (j2 + (1 : Int32)) ≤ j5 then (some (j4, xM_thrown)) else (k60 j1 j2 (j4 + (1 : Int32)) (j5 * j1) xM_thrown)
noncomputable def fX5_pebbles_b60  : Int32 → Int32 → Int32 → Int32 → Int32 → Option (Int32 × Int32) := lp (fun _ _ _ _ _ => none) (fX5_pebbles_b60_S ) fu
noncomputable def fX5_pebbles_b55  (j1 : Int32) (j2 : Int32) (y0 : Int32) (xM_thrown : Int32) : Option (Int32 × Int32) :=
  fX5_pebbles_b60  j1 j2 y0 (1 : Int32) xM_thrown
noncomputable def fX5_pebbles (j1 : Int32) (j2 : Int32) (j3 : Int32) (xM_thrown : Int32) : Option (Int32 × Int32) :=
  (fX5_in j1.toInt64 (1 : Int64) (5 : Int64)).bind fun z11 => (if z11 = 0 then (some ((-2 : Int32), (0 : Int32))) else ((fX5_in j2.toInt64 (0 : Int64) (50 : Int64)).bind fun z23 => (if z23 = 0 then (some ((-2 : Int32), (0 : Int32))) else (if j2 = 0 then (some ((0 : Int32), (0 : Int32))) else (if j1 = (1 : Int32) then (some ((-9 : Int32), (0 : Int32))) else (if j3 = 0 then (fX5_pebbles_b55  j1 j2 (0 : Int32) (0 : Int32)) else (fX5_pebbles_b55  j1 j2 (1 : Int32) (0 : Int32))))))))
-- X4_tell
noncomputable def fX4_tell_b56  (xG_heardMinutes : Int32) (xG_silentMinutes : Int32) (xG_toldCount : Int32) : Option (Int32 × Int32 × Int32 × Int32) :=
  some ((xG_toldCount + (1 : Int32)), xG_heardMinutes, xG_silentMinutes, (xG_toldCount + (1 : Int32)))
noncomputable def fX4_tell (j1 : Int32) (j2 : Int32) (xG_heardMinutes : Int32) (xG_silentMinutes : Int32) (xG_toldCount : Int32) : Option (Int32 × Int32 × Int32 × Int32) :=
  (fX4_within j1 (0 : Int32) (8 : Int32)).bind fun z4 => (if z4 = 0 then (some ((-2 : Int32), xG_heardMinutes, xG_silentMinutes, xG_toldCount)) else (if xG_toldCount < (6 : Int32) then (if j2 = 0 then (fX4_tell_b56  xG_heardMinutes (xG_silentMinutes ||| ((1 : Int32) <<< (j1 &&& 31))) xG_toldCount) else (fX4_tell_b56  (xG_heardMinutes ||| ((1 : Int32) <<< (j1 &&& 31))) xG_silentMinutes xG_toldCount)) else (some ((-4 : Int32), xG_heardMinutes, xG_silentMinutes, xG_toldCount))))
-- X5_tell
noncomputable def fX5_tell (j1 : Int32) (j2 : Int32) (xM_thrown : Int32) (xM_told : Int32) (xMtoldMinute : Nat → Int32) (xMtoldHeard : Nat → Int32) : Option (Int32 × Int32 × Int32 × (Nat → Int32) × (Nat → Int32)) :=
  (fX5_in j1.toInt64 (0 : Int64) (8 : Int64)).bind fun z11 => (if z11 = 0 then (some ((-2 : Int32), (0 : Int32), xM_told, xMtoldMinute, xMtoldHeard)) else (if xM_told = (6 : Int32) then (some ((-4 : Int32), (0 : Int32), xM_told, xMtoldMinute, xMtoldHeard)) else (if xM_told < 0 ∨ 6 ≤ xM_told.toNatClampNeg then none else (if xM_told < 0 ∨ 6 ≤ xM_told.toNatClampNeg then none else (some ((xM_told + (1 : Int32)), (0 : Int32), (xM_told + (1 : Int32)), (upd xMtoldMinute xM_told.toNatClampNeg j1), (upd xMtoldHeard xM_told.toNatClampNeg (vp_nar .boolean j2))))))))
-- X4_untell
noncomputable def fX4_untell  (xG_heardMinutes : Int32) (xG_silentMinutes : Int32) (xG_toldCount : Int32) : Option (Int32 × Int32 × Int32 × Int32) :=
  some (xG_toldCount, (0 : Int32), (0 : Int32), (0 : Int32))
-- X5_untell
noncomputable def fX5_untell  (xM_thrown : Int32) (xM_told : Int32) : Option (Int32 × Int32 × Int32) :=
  some (xM_told, (0 : Int32), (0 : Int32))
-- X4_letGo
noncomputable def fX4_letGo_b73 (xG_heardMinutes : Int32) (xG_silentMinutes : Int32) (k4 : Int32 → Int32 → Int32 → Option (Int32)) (j1 : Int32) (j2 : Int32) (j3 : Int32) : Option (Int32) :=
  k4 j1 j2 (j3 + (1 : Int32))
noncomputable def fX4_letGo_b55 (xG_heardMinutes : Int32) (xG_silentMinutes : Int32) (k4 : Int32 → Int32 → Int32 → Option (Int32)) (j1 : Int32) (j2 : Int32) (j3 : Int32) (j5 : Int32) (y0 : Int32) : Option (Int32) :=
  if j5 = 0 then (fX4_letGo_b73 xG_heardMinutes xG_silentMinutes k4 j1 j2 j3) else (if y0 = 0 then (fX4_letGo_b73 xG_heardMinutes xG_silentMinutes k4 j1 j2 j3) else (fX4_letGo_b73 xG_heardMinutes xG_silentMinutes k4 j1 (j2 ||| ((1 : Int32) <<< (j3 &&& 31))) j3))
noncomputable def fX4_letGo_b50 (xG_heardMinutes : Int32) (xG_silentMinutes : Int32) (k4 : Int32 → Int32 → Int32 → Option (Int32)) (j1 : Int32) (j2 : Int32) (j3 : Int32) (j5 : Int32) : Option (Int32) :=
  fX4_letGo_b55 xG_heardMinutes xG_silentMinutes k4 j1 j2 j3 j5 (1 : Int32)
noncomputable def fX4_letGo_b34 (xG_heardMinutes : Int32) (xG_silentMinutes : Int32) (k4 : Int32 → Int32 → Int32 → Option (Int32)) (j1 : Int32) (j2 : Int32) (j3 : Int32) (j4 : Int32) (y0 : Int32) : Option (Int32) :=
  if j1 = 0 then (fX4_letGo_b50 xG_heardMinutes xG_silentMinutes k4 j1 j2 j3 y0) else (if (xG_silentMinutes &&& j4) = 0 then (fX4_letGo_b50 xG_heardMinutes xG_silentMinutes k4 j1 j2 j3 y0) else (fX4_letGo_b55 xG_heardMinutes xG_silentMinutes k4 j1 j2 j3 y0 (0 : Int32)))
noncomputable def fX4_letGo_b4_S (xG_heardMinutes : Int32) (xG_silentMinutes : Int32)  (k4 : Int32 → Int32 → Int32 → Option (Int32)) (j1 : Int32) (j2 : Int32) (j3 : Int32) : Option (Int32) :=
  if (9 : Int32) < j3 then (some (j2)) else (if (xG_heardMinutes &&& ((((1 : Int32) <<< (j3 &&& 31)) - (1 : Int32)) ^^^ (-1 : Int32))) = 0 then (fX4_letGo_b34 xG_heardMinutes xG_silentMinutes k4 j1 j2 j3 (((1 : Int32) <<< (j3 &&& 31)) - (1 : Int32)) (1 : Int32)) else (fX4_letGo_b34 xG_heardMinutes xG_silentMinutes k4 j1 j2 j3 (((1 : Int32) <<< (j3 &&& 31)) - (1 : Int32)) (0 : Int32)))
noncomputable def fX4_letGo_b4 (xG_heardMinutes : Int32) (xG_silentMinutes : Int32)  : Int32 → Int32 → Int32 → Option (Int32) := lp (fun _ _ _ => none) (fX4_letGo_b4_S xG_heardMinutes xG_silentMinutes ) fu
noncomputable def fX4_letGo (j1 : Int32) (xG_heardMinutes : Int32) (xG_silentMinutes : Int32) : Option (Int32) :=
  fX4_letGo_b4 xG_heardMinutes xG_silentMinutes  j1 (0 : Int32) (0 : Int32)
-- X5_letGo
noncomputable def fX5_letGo_b106 (xM_told : Int32) (xMtoldMinute : Nat → Int32) (xMtoldHeard : Nat → Int32) (k9 : Int32 → Int32 → Int32 → Int32 → Option (Int32 × Int32)) (j1 : Int32) (j3 : Int32) (y0 : Int32) (y1 : Int32) (xM_thrown : Int32) : Option (Int32 × Int32) :=
  k9 j1 (y1 ||| y0) (j3 + (1 : Int32)) xM_thrown
noncomputable def fX5_letGo_b85 (xM_told : Int32) (xMtoldMinute : Nat → Int32) (xMtoldHeard : Nat → Int32) (k9 : Int32 → Int32 → Int32 → Int32 → Option (Int32 × Int32)) (k21 : Int32 → Int32 → Int32 → Int32 → Int32 → Int32 → Option (Int32 × Int32)) (j1 : Int32) (j2 : Int32) (j3 : Int32) (j5 : Int32) (y0 : Int32) (xM_thrown : Int32) : Option (Int32 × Int32) :=
  k21 j1 j2 j3 y0 (j5 + (1 : Int32)) xM_thrown
noncomputable def fX5_letGo_b84 (xM_told : Int32) (xMtoldMinute : Nat → Int32) (xMtoldHeard : Nat → Int32) (k9 : Int32 → Int32 → Int32 → Int32 → Option (Int32 × Int32)) (k21 : Int32 → Int32 → Int32 → Int32 → Int32 → Int32 → Option (Int32 × Int32)) (j1 : Int32) (j2 : Int32) (j3 : Int32) (j5 : Int32) (xM_thrown : Int32) : Option (Int32 × Int32) :=
  fX5_letGo_b85 xM_told xMtoldMinute xMtoldHeard k9 k21 j1 j2 j3 j5 (0 : Int32) xM_thrown
noncomputable def fX5_letGo_b80 (xM_told : Int32) (xMtoldMinute : Nat → Int32) (xMtoldHeard : Nat → Int32) (k9 : Int32 → Int32 → Int32 → Int32 → Option (Int32 × Int32)) (k21 : Int32 → Int32 → Int32 → Int32 → Int32 → Int32 → Option (Int32 × Int32)) (j1 : Int32) (j2 : Int32) (j3 : Int32) (j5 : Int32) (xM_thrown : Int32) : Option (Int32 × Int32) :=
  fX5_letGo_b85 xM_told xMtoldMinute xMtoldHeard k9 k21 j1 j2 j3 j5 (1 : Int32) xM_thrown
noncomputable def fX5_letGo_b46 (xM_told : Int32) (xMtoldMinute : Nat → Int32) (xMtoldHeard : Nat → Int32) (k9 : Int32 → Int32 → Int32 → Int32 → Option (Int32 × Int32)) (k21 : Int32 → Int32 → Int32 → Int32 → Int32 → Int32 → Option (Int32 × Int32)) (j1 : Int32) (j2 : Int32) (j3 : Int32) (j4 : Int32) (j5 : Int32) (y0 : Int32) (xM_thrown : Int32) : Option (Int32 × Int32) :=
  if j4 = 0 then (fX5_letGo_b84 xM_told xMtoldMinute xMtoldHeard k9 k21 j1 j2 j3 j5 xM_thrown) else (if j5 < 0 ∨ 6 ≤ j5.toNatClampNeg then none else (if (xMtoldHeard j5.toNatClampNeg) = 0 then (if y0 = 0 then (fX5_letGo_b80 xM_told xMtoldMinute xMtoldHeard k9 k21 j1 j2 j3 j5 xM_thrown) else (if j1 = 0 then (fX5_letGo_b80 xM_told xMtoldMinute xMtoldHeard k9 k21 j1 j2 j3 j5 xM_thrown) else (fX5_letGo_b84 xM_told xMtoldMinute xMtoldHeard k9 k21 j1 j2 j3 j5 xM_thrown))) else (if y0 = 0 then (fX5_letGo_b84 xM_told xMtoldMinute xMtoldHeard k9 k21 j1 j2 j3 j5 xM_thrown) else (fX5_letGo_b80 xM_told xMtoldMinute xMtoldHeard k9 k21 j1 j2 j3 j5 xM_thrown))))
noncomputable def fX5_letGo_b21_S (xM_told : Int32) (xMtoldMinute : Nat → Int32) (xMtoldHeard : Nat → Int32) (k9 : Int32 → Int32 → Int32 → Int32 → Option (Int32 × Int32)) (k21 : Int32 → Int32 → Int32 → Int32 → Int32 → Int32 → Option (Int32 × Int32)) (j1 : Int32) (j2 : Int32) (j3 : Int32) (j4 : Int32) (j5 : Int32) (xM_thrown : Int32) : Option (Int32 × Int32) :=
  if xM_told ≤ j5 then (if j4 = 0 then (fX5_letGo_b106 xM_told xMtoldMinute xMtoldHeard k9 j1 j3 (0 : Int32) j2 xM_thrown) else (fX5_letGo_b106 xM_told xMtoldMinute xMtoldHeard k9 j1 j3 ((1 : Int32) <<< (j3 &&& 31)) j2 xM_thrown)) else (if j5 < 0 ∨ 6 ≤ j5.toNatClampNeg then none else (if j3 ≤ (xMtoldMinute j5.toNatClampNeg) then (fX5_letGo_b46 xM_told xMtoldMinute xMtoldHeard k9 k21 j1 j2 j3 j4 j5 (0 : Int32) xM_thrown) else (fX5_letGo_b46 xM_told xMtoldMinute xMtoldHeard k9 k21 j1 j2 j3 j4 j5 (1 : Int32) xM_thrown)))
noncomputable def fX5_letGo_b21 (xM_told : Int32) (xMtoldMinute : Nat → Int32) (xMtoldHeard : Nat → Int32) (k9 : Int32 → Int32 → Int32 → Int32 → Option (Int32 × Int32)) : Int32 → Int32 → Int32 → Int32 → Int32 → Int32 → Option (Int32 × Int32) := lp (fun _ _ _ _ _ _ => none) (fX5_letGo_b21_S xM_told xMtoldMinute xMtoldHeard k9) fu
noncomputable def fX5_letGo_b9_S (xM_told : Int32) (xMtoldMinute : Nat → Int32) (xMtoldHeard : Nat → Int32)  (k9 : Int32 → Int32 → Int32 → Int32 → Option (Int32 × Int32)) (j1 : Int32) (j2 : Int32) (j3 : Int32) (xM_thrown : Int32) : Option (Int32 × Int32) :=
  if (9 : Int32) < j3 then (some (j2, xM_thrown)) else (fX5_letGo_b21 xM_told xMtoldMinute xMtoldHeard k9 j1 j2 j3 (1 : Int32) (0 : Int32) xM_thrown)
noncomputable def fX5_letGo_b9 (xM_told : Int32) (xMtoldMinute : Nat → Int32) (xMtoldHeard : Nat → Int32)  : Int32 → Int32 → Int32 → Int32 → Option (Int32 × Int32) := lp (fun _ _ _ _ => none) (fX5_letGo_b9_S xM_told xMtoldMinute xMtoldHeard ) fu
noncomputable def fX5_letGo (j1 : Int32) (xM_thrown : Int32) (xM_told : Int32) (xMtoldMinute : Nat → Int32) (xMtoldHeard : Nat → Int32) : Option (Int32 × Int32) :=
  fX5_letGo_b9 xM_told xMtoldMinute xMtoldHeard  j1 (0 : Int32) (0 : Int32) (0 : Int32)
-- X4_longestSilence
noncomputable def fX4_longestSilence_b30 (k7 : Int32 → Int32 → Int32 → Int32 → Int32 → Option (Int32)) (j0 : Int32) (j1 : Int32) (j2 : Int32) (j4 : Int32) (y0 : Int32) : Option (Int32) :=
  k7 j0 j1 (if j2 < y0 then y0 else j2) y0 (j4 + (1 : Int32))
noncomputable def fX4_longestSilence_b7_S  (k7 : Int32 → Int32 → Int32 → Int32 → Int32 → Option (Int32)) (j0 : Int32) (j1 : Int32) (j2 : Int32) (j3 : Int32) (j4 : Int32) : Option (Int32) :=
  if j1 ≤ j4 then (some (j2)) else (if ((j0 >>> (j4 &&& 31)) &&& (1 : Int32)) = (1 : Int32) then (fX4_longestSilence_b30 k7 j0 j1 j2 j4 (0 : Int32)) else (fX4_longestSilence_b30 k7 j0 j1 j2 j4 (j3 + (1 : Int32))))
noncomputable def fX4_longestSilence_b7  : Int32 → Int32 → Int32 → Int32 → Int32 → Option (Int32) := lp (fun _ _ _ _ _ => none) (fX4_longestSilence_b7_S ) fu
noncomputable def fX4_longestSilence (j0 : Int32) (j1 : Int32)  : Option (Int32) :=
  fX4_longestSilence_b7  j0 j1 (0 : Int32) (0 : Int32) (0 : Int32)
-- X4_power
noncomputable def fX4_power_b5_S  (k5 : Int32 → Int32 → Int64 → Int32 → Option (Int64)) (j0 : Int32) (j1 : Int32) (j2 : Int64) (j4 : Int32) : Option (Int64) :=
  if j1 ≤ j4 then (some (j2)) else (k5 j0 j1 (j2 * j0.toInt64) (j4 + (1 : Int32)))
noncomputable def fX4_power_b5  : Int32 → Int32 → Int64 → Int32 → Option (Int64) := lp (fun _ _ _ _ => none) (fX4_power_b5_S ) fu
noncomputable def fX4_power (j0 : Int32) (j1 : Int32)  : Option (Int64) :=
  fX4_power_b5  j0 j1 (1 : Int64) (0 : Int32)
-- X4_link
noncomputable def fX4_link_b83 (k35 : Int32 → Int32 → Int32 → Int32 → Int64 → Int32 → Option (Int32)) (j1 : Int32) (j2 : Int32) (j3 : Int32) (j4 : Int32) (j5 : Int64) (j7 : Int32) : Option (Int32) :=
  k35 j1 j2 j3 j4 j5 (j7 + (1 : Int32))
noncomputable def fX4_link_b35_S  (k35 : Int32 → Int32 → Int32 → Int32 → Int64 → Int32 → Option (Int32)) (j1 : Int32) (j2 : Int32) (j3 : Int32) (j4 : Int32) (j5 : Int64) (j7 : Int32) : Option (Int32) :=
  if ((1 : Int32) <<< (j3 &&& 31)) ≤ j7 then ((fX4_power (10 : Int32) j3).bind fun z94 => ((fX4_fraction j5 z94 j4).bind fun z99 => (some (z99)))) else ((fX4_longestSilence j7 j3).bind fun z46 => (if j1 < z46 then (fX4_link_b83 k35 j1 j2 j3 j4 j5 j7) else ((fJ6_bitCount_0f7a4 j7).bind fun z55 => ((fX4_power j2 z55).bind fun z65 => ((fX4_power ((10 : Int32) - j2) (j3 - z55)).bind fun z76 => (fX4_link_b83 k35 j1 j2 j3 j4 (j5 + (z65 * z76)) j7))))))
noncomputable def fX4_link_b35  : Int32 → Int32 → Int32 → Int32 → Int64 → Int32 → Option (Int32) := lp (fun _ _ _ _ _ _ => none) (fX4_link_b35_S ) fu
noncomputable def fX4_link (j1 : Int32) (j2 : Int32) (j3 : Int32) (j4 : Int32)  : Option (Int32) :=
  (fX4_within j1 (0 : Int32) (5 : Int32)).bind fun z3 => (if z3 = 0 then (some ((-2 : Int32))) else ((fX4_isTenths j2).bind fun z10 => (if z10 = 0 then (some ((-2 : Int32))) else ((fX4_within j3 (0 : Int32) (6 : Int32)).bind fun z20 => (if z20 = 0 then (some ((-2 : Int32))) else (fX4_link_b35  j1 j2 j3 j4 (0 : Int64) (0 : Int32)))))))
-- X5_link
noncomputable def fX5_link_b156 (k50 : Int32 → Int32 → Int32 → Int32 → Int32 → Int32 → Int32 → Option (Int32 × Int32)) (j1 : Int32) (j2 : Int32) (j3 : Int32) (j4 : Int32) (j6 : Int32) (y0 : Int32) (y1 : Int32) (xM_thrown : Int32) : Option (Int32 × Int32) :=
  k50 j1 j2 j3 j4 (y1 + y0) (j6 + (1 : Int32)) xM_thrown
noncomputable def fX5_link_b135 (k50 : Int32 → Int32 → Int32 → Int32 → Int32 → Int32 → Int32 → Option (Int32 × Int32)) (k70 : Int32 → Int32 → Int32 → Int32 → Int32 → Int32 → Int32 → Int32 → Int32 → Int32 → Int32 → Option (Int32 × Int32)) (j1 : Int32) (j2 : Int32) (j3 : Int32) (j4 : Int32) (j5 : Int32) (j6 : Int32) (j7 : Int32) (j8 : Int32) (j10 : Int32) (y0 : Int32) (xM_thrown : Int32) : Option (Int32 × Int32) :=
  k70 j1 j2 j3 j4 j5 j6 j7 j8 y0 (j10 + (1 : Int32)) xM_thrown
noncomputable def fX5_link_b134 (k50 : Int32 → Int32 → Int32 → Int32 → Int32 → Int32 → Int32 → Option (Int32 × Int32)) (k70 : Int32 → Int32 → Int32 → Int32 → Int32 → Int32 → Int32 → Int32 → Int32 → Int32 → Int32 → Option (Int32 × Int32)) (j1 : Int32) (j2 : Int32) (j3 : Int32) (j4 : Int32) (j5 : Int32) (j6 : Int32) (j7 : Int32) (j8 : Int32) (j10 : Int32) (xM_thrown : Int32) : Option (Int32 × Int32) :=
  fX5_link_b135 k50 k70 j1 j2 j3 j4 j5 j6 j7 j8 j10 (0 : Int32) xM_thrown
noncomputable def fX5_link_b117 (k50 : Int32 → Int32 → Int32 → Int32 → Int32 → Int32 → Int32 → Option (Int32 × Int32)) (k70 : Int32 → Int32 → Int32 → Int32 → Int32 → Int32 → Int32 → Int32 → Int32 → Int32 → Int32 → Option (Int32 × Int32)) (j1 : Int32) (j2 : Int32) (j3 : Int32) (j4 : Int32) (j5 : Int32) (j6 : Int32) (j7 : Int32) (j9 : Int32) (j10 : Int32) (y0 : Int32) (xM_thrown : Int32) : Option (Int32 × Int32) :=
  if j9 = 0 then (fX5_link_b134 k50 k70 j1 j2 j3 j4 j5 j6 j7 y0 j10 xM_thrown) else (if j1 < y0 then (fX5_link_b134 k50 k70 j1 j2 j3 j4 j5 j6 j7 y0 j10 xM_thrown) else (fX5_link_b135 k50 k70 j1 j2 j3 j4 j5 j6 j7 y0 j10 (1 : Int32) xM_thrown))
noncomputable def fX5_link_b96 (k50 : Int32 → Int32 → Int32 → Int32 → Int32 → Int32 → Int32 → Option (Int32 × Int32)) (k70 : Int32 → Int32 → Int32 → Int32 → Int32 → Int32 → Int32 → Int32 → Int32 → Int32 → Int32 → Option (Int32 × Int32)) (j1 : Int32) (j2 : Int32) (j3 : Int32) (j4 : Int32) (j5 : Int32) (j6 : Int32) (j8 : Int32) (j9 : Int32) (j10 : Int32) (y0 : Int32) (y1 : Int32) (xM_thrown : Int32) : Option (Int32 × Int32) :=
  (fX5_has j6 j10).bind fun z103 => (if z103 = 0 then (fX5_link_b117 k50 k70 j1 j2 j3 j4 j5 j6 (y1 * y0) j9 j10 (j8 + (1 : Int32)) xM_thrown) else (fX5_link_b117 k50 k70 j1 j2 j3 j4 j5 j6 (y1 * y0) j9 j10 (0 : Int32) xM_thrown))
noncomputable def fX5_link_b70_S (k50 : Int32 → Int32 → Int32 → Int32 → Int32 → Int32 → Int32 → Option (Int32 × Int32)) (k70 : Int32 → Int32 → Int32 → Int32 → Int32 → Int32 → Int32 → Int32 → Int32 → Int32 → Int32 → Option (Int32 × Int32)) (j1 : Int32) (j2 : Int32) (j3 : Int32) (j4 : Int32) (j5 : Int32) (j6 : Int32) (j7 : Int32) (j8 : Int32) (j9 : Int32) (j10 : Int32) (xM_thrown : Int32) : Option (Int32 × Int32) :=
  if j3 ≤ j10 then (if j9 = 0 then (fX5_link_b156 k50 j1 j2 j3 j4 j6 (0 : Int32) j5 xM_thrown) else (fX5_link_b156 k50 j1 j2 j3 j4 j6 j7 j5 xM_thrown)) else ((fX5_has j6 j10).bind fun z82 => (if z82 = 0 then (fX5_link_b96 k50 k70 j1 j2 j3 j4 j5 j6 j8 j9 j10 ((10 : Int32) - j2) j7 xM_thrown) else (fX5_link_b96 k50 k70 j1 j2 j3 j4 j5 j6 j8 j9 j10 j2 j7 xM_thrown)))
noncomputable def fX5_link_b70 (k50 : Int32 → Int32 → Int32 → Int32 → Int32 → Int32 → Int32 → Option (Int32 × Int32)) : Int32 → Int32 → Int32 → Int32 → Int32 → Int32 → Int32 → Int32 → Int32 → Int32 → Int32 → Option (Int32 × Int32) := lp (fun _ _ _ _ _ _ _ _ _ _ _ => none) (fX5_link_b70_S k50) fu
noncomputable def fX5_link_b50_S  (k50 : Int32 → Int32 → Int32 → Int32 → Int32 → Int32 → Int32 → Option (Int32 × Int32)) (j1 : Int32) (j2 : Int32) (j3 : Int32) (j4 : Int32) (j5 : Int32) (j6 : Int32) (xM_thrown : Int32) : Option (Int32 × Int32) :=
  if ((1 : Int32) <<< (j3 &&& 31)) ≤ j6 then ((fX5_ten j3).bind fun z168 => ((fX5_fraction j5 z168 j4).bind fun z173 => (some (z173, xM_thrown)))) else (fX5_link_b70 k50 j1 j2 j3 j4 j5 j6 (1 : Int32) (0 : Int32) (1 : Int32) (0 : Int32) xM_thrown)
noncomputable def fX5_link_b50  : Int32 → Int32 → Int32 → Int32 → Int32 → Int32 → Int32 → Option (Int32 × Int32) := lp (fun _ _ _ _ _ _ _ => none) (fX5_link_b50_S ) fu
noncomputable def fX5_link (j1 : Int32) (j2 : Int32) (j3 : Int32) (j4 : Int32) (xM_thrown : Int32) : Option (Int32 × Int32) :=
  (fX5_in j1.toInt64 (0 : Int64) (5 : Int64)).bind fun z11 => (if z11 = 0 then (some ((-2 : Int32), (0 : Int32))) else ((fX5_in j2.toInt64 (0 : Int64) (10 : Int64)).bind fun z23 => (if z23 = 0 then (some ((-2 : Int32), (0 : Int32))) else ((fX5_in j3.toInt64 (0 : Int64) (6 : Int64)).bind fun z35 => (if z35 = 0 then (some ((-2 : Int32), (0 : Int32))) else (fX5_link_b50  j1 j2 j3 j4 (0 : Int32) (0 : Int32) (0 : Int32)))))))
-- X4_seed
noncomputable def fX4_seed (j1 : Int64) (xG_seedNow : Int64) : Option (Int64 × Int64) :=
  some (xG_seedNow, j1)
-- X5_seed
noncomputable def fX5_seed (j1 : Int64) (xM_thrown : Int32) (xM_seed : Int64) : Option (Int64 × Int32 × Int64) :=
  some (xM_seed, (0 : Int32), j1)
-- X4_gorges
noncomputable def fX4_gorges_b57_S (xP_light : Int32) (xP_water : Int32) (xP_nerves : Int32) (xP_kinds : Int32) (xW1_row : Int32) (xW1_quiets : Int32) (xW1_place : Int32) (k34 : Int32 → Int32 → Int32 → Int32 → Int64 → Int32 → Int32 → Int32 → Int32 → Option (Int32 × Int64 × Int32 × Int32 × Int32 × Int32)) (k57 : Int32 → Int32 → Int32 → Int32 → Int32 → Int64 → Int32 → Int32 → Int32 → Int32 → Option (Int32 × Int64 × Int32 × Int32 × Int32 × Int32)) (j1 : Int32) (j2 : Int32) (j3 : Int32) (j4 : Int32) (j5 : Int32) (xG_seedNow : Int64) (xW2_row : Int32) (xW2_quiets : Int32) (xW2_place : Int32) (xW2_turned : Int32) : Option (Int32 × Int64 × Int32 × Int32 × Int32 × Int32) :=
  if j2 ≤ j5 then ((fX3_size xW2_row).bind fun z109 => (k34 j1 j2 (j3 + z109) (j4 + (1 : Int32)) xG_seedNow xW2_row xW2_quiets xW2_place xW2_turned)) else ((fX3_step (((((xG_seedNow * (6364136223846793005 : Int64)) + (1442695040888963407 : Int64)).toUInt64 >>> ((33 : Int32).toInt64.toUInt64 &&& Int64.toUInt64 63)).toInt64).toInt32 &&& (31 : Int32)) xP_water xP_nerves xP_kinds xW2_row xW2_quiets xW2_place xW2_turned).bind fun z94 => (k57 j1 j2 j3 j4 (j5 + (1 : Int32)) ((xG_seedNow * (6364136223846793005 : Int64)) + (1442695040888963407 : Int64)) z94.2.1 z94.2.2.1 z94.2.2.2.1 z94.2.2.2.2))
noncomputable def fX4_gorges_b57 (xP_light : Int32) (xP_water : Int32) (xP_nerves : Int32) (xP_kinds : Int32) (xW1_row : Int32) (xW1_quiets : Int32) (xW1_place : Int32) (k34 : Int32 → Int32 → Int32 → Int32 → Int64 → Int32 → Int32 → Int32 → Int32 → Option (Int32 × Int64 × Int32 × Int32 × Int32 × Int32)) : Int32 → Int32 → Int32 → Int32 → Int32 → Int64 → Int32 → Int32 → Int32 → Int32 → Option (Int32 × Int64 × Int32 × Int32 × Int32 × Int32) := lp (fun _ _ _ _ _ _ _ _ _ _ => none) (fX4_gorges_b57_S xP_light xP_water xP_nerves xP_kinds xW1_row xW1_quiets xW1_place k34) fu
noncomputable def fX4_gorges_b34_S (xP_light : Int32) (xP_water : Int32) (xP_nerves : Int32) (xP_kinds : Int32) (xW1_row : Int32) (xW1_quiets : Int32) (xW1_place : Int32)  (k34 : Int32 → Int32 → Int32 → Int32 → Int64 → Int32 → Int32 → Int32 → Int32 → Option (Int32 × Int64 × Int32 × Int32 × Int32 × Int32)) (j1 : Int32) (j2 : Int32) (j3 : Int32) (j4 : Int32) (xG_seedNow : Int64) (xW2_row : Int32) (xW2_quiets : Int32) (xW2_place : Int32) (xW2_turned : Int32) : Option (Int32 × Int64 × Int32 × Int32 × Int32 × Int32) :=
  if j1 ≤ j4 then (some (j3, xG_seedNow, xW2_row, xW2_quiets, xW2_place, xW2_turned)) else ((fX3_state xW1_row xW1_quiets xW1_place).bind fun z48 => ((fX3_become z48 xW2_row xW2_quiets xW2_place).bind fun z51 => (fX4_gorges_b57 xP_light xP_water xP_nerves xP_kinds xW1_row xW1_quiets xW1_place k34 j1 j2 j3 j4 (0 : Int32) xG_seedNow z51.1 z51.2.1 z51.2.2 xW2_turned)))
noncomputable def fX4_gorges_b34 (xP_light : Int32) (xP_water : Int32) (xP_nerves : Int32) (xP_kinds : Int32) (xW1_row : Int32) (xW1_quiets : Int32) (xW1_place : Int32)  : Int32 → Int32 → Int32 → Int32 → Int64 → Int32 → Int32 → Int32 → Int32 → Option (Int32 × Int64 × Int32 × Int32 × Int32 × Int32) := lp (fun _ _ _ _ _ _ _ _ _ => none) (fX4_gorges_b34_S xP_light xP_water xP_nerves xP_kinds xW1_row xW1_quiets xW1_place ) fu
noncomputable def fX4_gorges (j1 : Int32) (xG_seedNow : Int64) (xP_light : Int32) (xP_water : Int32) (xP_nerves : Int32) (xP_kinds : Int32) (xW1_row : Int32) (xW1_quiets : Int32) (xW1_place : Int32) (xW2_row : Int32) (xW2_quiets : Int32) (xW2_place : Int32) (xW2_turned : Int32) : Option (Int32 × Int64 × Int32 × Int32 × Int32 × Int32) :=
  (fX4_within j1 (1 : Int32) (20 : Int32)).bind fun z4 => (if z4 = 0 then (some ((-2 : Int32), xG_seedNow, xW2_row, xW2_quiets, xW2_place, xW2_turned)) else ((fX1_light xP_light).bind fun z17 => ((fX3_place xW1_place).bind fun z24 => (fX4_gorges_b34 xP_light xP_water xP_nerves xP_kinds xW1_row xW1_quiets xW1_place  j1 (z17 - z24) (0 : Int32) (0 : Int32) xG_seedNow xW2_row xW2_quiets xW2_place xW2_turned))))
-- X5_gorges
noncomputable def fX5_gorges_b33_S (xM_light : Int32) (xM_water : Int32) (xMnerve : Nat → Int32) (xMkind : Nat → Int32) (xMpage : Nat → Int32) (k24 : Int32 → Int32 → Int32 → Int32 → Int64 → Int32 → (Nat → Int32) → Option (Int32 × Int32 × Int64 × Int32 × (Nat → Int32))) (k33 : Int32 → Int32 → Int32 → Int32 → Int64 → Int32 → (Nat → Int32) → Option (Int32 × Int32 × Int64 × Int32 × (Nat → Int32))) (j1 : Int32) (j2 : Int32) (j3 : Int32) (xM_thrown : Int32) (xM_seed : Int64) (xM_turned : Int32) (xMtrial : Nat → Int32) : Option (Int32 × Int32 × Int64 × Int32 × (Nat → Int32)) :=
  if (11 : Int32) < 0 ∨ 13 ≤ (11 : Int32).toNatClampNeg then none else (if xM_light ≤ (xMtrial (11 : Int32).toNatClampNeg) then (if (5 : Int32) < 0 ∨ 13 ≤ (5 : Int32).toNatClampNeg then none else (k24 j1 (j2 + (xMtrial (5 : Int32).toNatClampNeg)) (j3 + (1 : Int32)) xM_thrown xM_seed xM_turned xMtrial)) else ((fX5_goMinute ((((((xM_seed * (6364136223846793005 : Int64)) + (1442695040888963407 : Int64)).toUInt64 >>> ((33 : Int32).toInt64.toUInt64 &&& Int64.toUInt64 63)).toInt64) - ((((xM_seed * (6364136223846793005 : Int64)) + (1442695040888963407 : Int64)).toUInt64 >>> ((33 : Int32).toInt64.toUInt64 &&& Int64.toUInt64 63)).toInt64) / (32 : Int64) * (32 : Int64)).toInt32) xM_water xM_turned xMnerve xMkind xMtrial).bind fun z80 => (k33 j1 j2 j3 xM_thrown ((xM_seed * (6364136223846793005 : Int64)) + (1442695040888963407 : Int64)) z80.2.1 z80.2.2)))
noncomputable def fX5_gorges_b33 (xM_light : Int32) (xM_water : Int32) (xMnerve : Nat → Int32) (xMkind : Nat → Int32) (xMpage : Nat → Int32) (k24 : Int32 → Int32 → Int32 → Int32 → Int64 → Int32 → (Nat → Int32) → Option (Int32 × Int32 × Int64 × Int32 × (Nat → Int32))) : Int32 → Int32 → Int32 → Int32 → Int64 → Int32 → (Nat → Int32) → Option (Int32 × Int32 × Int64 × Int32 × (Nat → Int32)) := lp (fun _ _ _ _ _ _ _ => none) (fX5_gorges_b33_S xM_light xM_water xMnerve xMkind xMpage k24) fu
noncomputable def fX5_gorges_b24_S (xM_light : Int32) (xM_water : Int32) (xMnerve : Nat → Int32) (xMkind : Nat → Int32) (xMpage : Nat → Int32)  (k24 : Int32 → Int32 → Int32 → Int32 → Int64 → Int32 → (Nat → Int32) → Option (Int32 × Int32 × Int64 × Int32 × (Nat → Int32))) (j1 : Int32) (j2 : Int32) (j3 : Int32) (xM_thrown : Int32) (xM_seed : Int64) (xM_turned : Int32) (xMtrial : Nat → Int32) : Option (Int32 × Int32 × Int64 × Int32 × (Nat → Int32)) :=
  if j1 ≤ j3 then (some (j2, xM_thrown, xM_seed, xM_turned, xMtrial)) else ((fX5_begin xMpage xMtrial).bind fun z30 => (fX5_gorges_b33 xM_light xM_water xMnerve xMkind xMpage k24 j1 j2 j3 xM_thrown xM_seed xM_turned z30))
noncomputable def fX5_gorges_b24 (xM_light : Int32) (xM_water : Int32) (xMnerve : Nat → Int32) (xMkind : Nat → Int32) (xMpage : Nat → Int32)  : Int32 → Int32 → Int32 → Int32 → Int64 → Int32 → (Nat → Int32) → Option (Int32 × Int32 × Int64 × Int32 × (Nat → Int32)) := lp (fun _ _ _ _ _ _ _ => none) (fX5_gorges_b24_S xM_light xM_water xMnerve xMkind xMpage ) fu
noncomputable def fX5_gorges (j1 : Int32) (xM_thrown : Int32) (xM_light : Int32) (xM_water : Int32) (xM_seed : Int64) (xM_turned : Int32) (xMnerve : Nat → Int32) (xMkind : Nat → Int32) (xMpage : Nat → Int32) (xMtrial : Nat → Int32) : Option (Int32 × Int32 × Int64 × Int32 × (Nat → Int32)) :=
  (fX5_in j1.toInt64 (1 : Int64) (20 : Int64)).bind fun z11 => (if z11 = 0 then (some ((-2 : Int32), (0 : Int32), xM_seed, xM_turned, xMtrial)) else (fX5_gorges_b24 xM_light xM_water xMnerve xMkind xMpage  j1 (0 : Int32) (0 : Int32) (0 : Int32) xM_seed xM_turned xMtrial))
-- X4_keep
noncomputable def fX4_keep (j1 : Int32) (xW1_row : Int32) (xW1_quiets : Int32) (xW1_place : Int32) (xKE : Nat → Int64) : Option (Int32 × (Nat → Int64)) :=
  (fX4_within j1 (0 : Int32) ((2 : Int32) - (1 : Int32))).bind fun z9 => (if z9 = 0 then (some ((-1 : Int32), xKE)) else ((fX3_state xW1_row xW1_quiets xW1_place).bind fun z26 => (if j1 < 0 ∨ 2 ≤ j1.toNatClampNeg then none else ((fX3_place xW1_place).bind fun z34 => (some (z34, (vp_updL xKE j1.toNatClampNeg z26)))))))
-- X5_keep
noncomputable def fX5_keep_b26_S (xMpage : Nat → Int32)  (k26 : Int32 → Int32 → Int32 → (Nat → Int32) → (Nat → Int32) → Option (Int32 × Int32 × (Nat → Int32) × (Nat → Int32))) (j1 : Int32) (j2 : Int32) (xM_thrown : Int32) (xMkept : Nat → Int32) (xMisKept : Nat → Int32) : Option (Int32 × Int32 × (Nat → Int32) × (Nat → Int32)) :=
  if (13 : Int32) ≤ j2 then (if (11 : Int32) < 0 ∨ 13 ≤ (11 : Int32).toNatClampNeg then none else (some ((xMpage (11 : Int32).toNatClampNeg), xM_thrown, xMkept, xMisKept))) else (if j2 < 0 ∨ 13 ≤ j2.toNatClampNeg then none else (if (((13 : Int32) * j1) + j2) < 0 ∨ 26 ≤ (((13 : Int32) * j1) + j2).toNatClampNeg then none else (k26 j1 (j2 + (1 : Int32)) xM_thrown (upd xMkept (((13 : Int32) * j1) + j2).toNatClampNeg (xMpage j2.toNatClampNeg)) xMisKept)))
noncomputable def fX5_keep_b26 (xMpage : Nat → Int32)  : Int32 → Int32 → Int32 → (Nat → Int32) → (Nat → Int32) → Option (Int32 × Int32 × (Nat → Int32) × (Nat → Int32)) := lp (fun _ _ _ _ _ => none) (fX5_keep_b26_S xMpage ) fu
noncomputable def fX5_keep (j1 : Int32) (xM_thrown : Int32) (xMpage : Nat → Int32) (xMkept : Nat → Int32) (xMisKept : Nat → Int32) : Option (Int32 × Int32 × (Nat → Int32) × (Nat → Int32)) :=
  (fX5_in j1.toInt64 (0 : Int64) (1 : Int64)).bind fun z9 => (if z9 = 0 then (some ((-1 : Int32), (0 : Int32), xMkept, xMisKept)) else (if j1 < 0 ∨ 2 ≤ j1.toNatClampNeg then none else (fX5_keep_b26 xMpage  j1 (0 : Int32) (0 : Int32) xMkept (upd xMisKept j1.toNatClampNeg (vp_nar .boolean (1 : Int32))))))
-- X4_again
noncomputable def fX4_again (j1 : Int32) (xG_actCount : Int32) (xW1_row : Int32) (xW1_quiets : Int32) (xW1_place : Int32) (xKE : Nat → Int64) : Option (Int32 × Int32 × Int32 × Int32 × Int32) :=
  (fX4_within j1 (0 : Int32) ((2 : Int32) - (1 : Int32))).bind fun z9 => (if z9 = 0 then (some ((-1 : Int32), xG_actCount, xW1_row, xW1_quiets, xW1_place)) else (if j1 < 0 ∨ 2 ≤ j1.toNatClampNeg then none else (if (lg_cmp (xKE j1.toNatClampNeg) (-1 : Int64)) = 0 then (some ((-3 : Int32), xG_actCount, xW1_row, xW1_quiets, xW1_place)) else (if j1 < 0 ∨ 2 ≤ j1.toNatClampNeg then none else ((fX3_become (xKE j1.toNatClampNeg) xW1_row xW1_quiets xW1_place).bind fun z43 => ((fX3_place z43.2.2).bind fun z55 => (some (z55, (0 : Int32), z43.1, z43.2.1, z43.2.2))))))))
-- X5_again
noncomputable def fX5_again_b31_S (xMkept : Nat → Int32) (xMisKept : Nat → Int32)  (k31 : Int32 → Int32 → Int32 → Int32 → (Nat → Int32) → Option (Int32 × Int32 × Int32 × (Nat → Int32))) (j1 : Int32) (j2 : Int32) (xM_thrown : Int32) (xM_acts : Int32) (xMpage : Nat → Int32) : Option (Int32 × Int32 × Int32 × (Nat → Int32)) :=
  if (13 : Int32) ≤ j2 then (if (11 : Int32) < 0 ∨ 13 ≤ (11 : Int32).toNatClampNeg then none else (some ((xMpage (11 : Int32).toNatClampNeg), xM_thrown, (0 : Int32), xMpage))) else (if (((13 : Int32) * j1) + j2) < 0 ∨ 26 ≤ (((13 : Int32) * j1) + j2).toNatClampNeg then none else (if j2 < 0 ∨ 13 ≤ j2.toNatClampNeg then none else (k31 j1 (j2 + (1 : Int32)) xM_thrown xM_acts (upd xMpage j2.toNatClampNeg (xMkept (((13 : Int32) * j1) + j2).toNatClampNeg)))))
noncomputable def fX5_again_b31 (xMkept : Nat → Int32) (xMisKept : Nat → Int32)  : Int32 → Int32 → Int32 → Int32 → (Nat → Int32) → Option (Int32 × Int32 × Int32 × (Nat → Int32)) := lp (fun _ _ _ _ _ => none) (fX5_again_b31_S xMkept xMisKept ) fu
noncomputable def fX5_again (j1 : Int32) (xM_thrown : Int32) (xM_acts : Int32) (xMpage : Nat → Int32) (xMkept : Nat → Int32) (xMisKept : Nat → Int32) : Option (Int32 × Int32 × Int32 × (Nat → Int32)) :=
  (fX5_in j1.toInt64 (0 : Int64) (1 : Int64)).bind fun z9 => (if z9 = 0 then (some ((-1 : Int32), (0 : Int32), xM_acts, xMpage)) else (if j1 < 0 ∨ 2 ≤ j1.toNatClampNeg then none else (if (xMisKept j1.toNatClampNeg) = 0 then (some ((-3 : Int32), (0 : Int32), xM_acts, xMpage)) else (fX5_again_b31 xMkept xMisKept  j1 (0 : Int32) (0 : Int32) xM_acts xMpage))))
